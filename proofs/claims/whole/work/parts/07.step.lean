/-! one instruction: the model's machine does what mine does -/
/-- the locals: as far as mine are known -/
def ej_Lc (a0 : Nat → Nat) (bs : Nat) (vZ : Value) (nL : Nat) (la : Array Slot) (ls : ej_L) : Prop := la.size = nL ∧ ls.length = nL ∧ lv_wf la ∧ ∀ (i : Nat) (v : Value), ls[i]? = some (some v) → la[i]? = some (.val (ej_tr a0 bs vZ v))
/-- a method that runs: its code, its words, its entry -/
def ej_Cx (p : Program) (s : State) (m : MethodId) (args : Array Value) (meth : Method) (c : Code) (D : va_G) (cA : Nat → ClassId) (a0 : Nat → Nat) (bs : Nat) (vZ : Value) (L : Nat) (xs : Nat → Int32) (me : Nat) : Prop :=
  p.tables.exec = Jvm.exec ∧ c.code = ej_b me ∧ c.maxLocals = ej_mx me ∧ s.vm.findClass (ej_cn (ej_own me)) = some m.cls ∧ (∀ w ∈ gtbl, w.before args s = true) ∧ ej_SF D cA a0 bs vZ L xs s s.heap ∧ bs ≤ s.heap.size ∧ ((ej_y me).name = "<init>" → meth.name = "<init>")
def ej_G (p : Program) (l : Launch) (e : Env) (R : Room) (s : State) (m : MethodId) (args : Array Value) (below : List Frame) (meth : Method) (c : Code) (Q : State → Prop) (D : va_G) (cA : Nat → ClassId) (a0 : Nat → Nat) (bs : Nat) (vZ : Value) (L : Nat) (xs : Nat → Int32) (me z0 s0 : Nat) (pc : Nat) (ls : ej_L) (st : List Value) (M : ej_Mem) : Prop :=
  ∀ (H : Heap) (locs : List Loc) (la : Array Slot), ej_WP D cA a0 bs L xs M H → va_S (ej_A bs) s.heap H locs → ej_Lc a0 bs vZ (ej_mx me) la ls → z0 ≤ mZ M → s0 ≤ mS M →
    W p l e R s m args below meth c H locs (mZ M - z0) (mS M - s0) Q (F0 m pc la (st.map (ej_tr a0 bs vZ)))
section STEP
variable {p : Program} {l : Launch} {e : Env} {R : Room} {s : State} {m : MethodId} {args : Array Value} {below : List Frame} {meth : Method} {c : Code} {Q : State → Prop} {D : va_G} {cA : Nat → ClassId} {a0 : Nat → Nat} {bs : Nat} {vZ : Value} {L : Nat} {xs : Nat → Int32} {me z0 s0 pc : Nat} {ls : ej_L} {st : List Value} {M : ej_Mem}
-- constants
theorem sd_iconst (C : ej_Cx p s m args meth c D cA a0 bs vZ L xs me) {n : Int} {v : Int32} (hd : decode (ej_b me) pc = .ok (.iconst n, 1)) (hv : Int32.ofInt n = v) (k : ej_G p l e R s m args below meth c Q D cA a0 bs vZ L xs me z0 s0 (pc + 1) ls (.int v :: st) M) : ej_G p l e R s m args below meth c Q D cA a0 bs vZ L xs me z0 s0 pc ls st M :=
  fun H locs la hW hS hL hz hs => lv_iconst C.1 C.2.1 hd hv (k H locs la hW hS hL hz hs)
theorem sd_bipush (C : ej_Cx p s m args meth c D cA a0 bs vZ L xs me) {n : Int} {v : Int32} (hd : decode (ej_b me) pc = .ok (.bipush n, 2)) (hv : (Int8.ofInt n).toInt32 = v) (k : ej_G p l e R s m args below meth c Q D cA a0 bs vZ L xs me z0 s0 (pc + 2) ls (.int v :: st) M) : ej_G p l e R s m args below meth c Q D cA a0 bs vZ L xs me z0 s0 pc ls st M :=
  fun H locs la hW hS hL hz hs => lv_bipush C.1 C.2.1 hd hv (k H locs la hW hS hL hz hs)
theorem sd_sipush (C : ej_Cx p s m args meth c D cA a0 bs vZ L xs me) {n : Int} {v : Int32} (hd : decode (ej_b me) pc = .ok (.sipush n, 3)) (hv : (Int16.ofInt n).toInt32 = v) (k : ej_G p l e R s m args below meth c Q D cA a0 bs vZ L xs me z0 s0 (pc + 3) ls (.int v :: st) M) : ej_G p l e R s m args below meth c Q D cA a0 bs vZ L xs me z0 s0 pc ls st M :=
  fun H locs la hW hS hL hz hs => lv_sipush C.1 C.2.1 hd hv (k H locs la hW hS hL hz hs)
theorem sd_ldc (C : ej_Cx p s m args meth c D cA a0 bs vZ L xs me) {n : Nat} {v : Int32} (hd : decode (ej_b me) pc = .ok (.ldc n, 2)) (hw : Cond.constant (ej_cn (ej_own me)) n v ∈ gtbl) (k : ej_G p l e R s m args below meth c Q D cA a0 bs vZ L xs me z0 s0 (pc + 2) ls (.int v :: st) M) : ej_G p l e R s m args below meth c Q D cA a0 bs vZ L xs me z0 s0 pc ls st M :=
  fun H locs la hW hS hL hz hs => lv_ldc C.1 C.2.1 C.2.2.2.1 (C.2.2.2.2.1 _ hw) hd (k H locs la hW hS hL hz hs)
theorem sd_ldc2 (C : ej_Cx p s m args meth c D cA a0 bs vZ L xs me) {n : Nat} {v : Int64} (hd : decode (ej_b me) pc = .ok (.ldc2_w n, 3)) (hw : Cond.constantLong (ej_cn (ej_own me)) n v ∈ gtbl) (k : ej_G p l e R s m args below meth c Q D cA a0 bs vZ L xs me z0 s0 (pc + 3) ls (.long v :: st) M) : ej_G p l e R s m args below meth c Q D cA a0 bs vZ L xs me z0 s0 pc ls st M :=
  fun H locs la hW hS hL hz hs => lv_ldc2 C.1 C.2.1 C.2.2.2.1 (C.2.2.2.2.1 _ hw) hd (k H locs la hW hS hL hz hs)
theorem sd_lconst (C : ej_Cx p s m args meth c D cA a0 bs vZ L xs me) {n : Fin 2} {v : Int64} (hd : decode (ej_b me) pc = .ok (.lconst n, 1)) (hv : Int64.ofNat (n : Nat) = v) (k : ej_G p l e R s m args below meth c Q D cA a0 bs vZ L xs me z0 s0 (pc + 1) ls (.long v :: st) M) : ej_G p l e R s m args below meth c Q D cA a0 bs vZ L xs me z0 s0 pc ls st M :=
  fun H locs la hW hS hL hz hs => lv_lconst C.1 C.2.1 hd hv (k H locs la hW hS hL hz hs)
theorem sd_null (C : ej_Cx p s m args meth c D cA a0 bs vZ L xs me) (hd : decode (ej_b me) pc = .ok (.aconst_null, 1)) (k : ej_G p l e R s m args below meth c Q D cA a0 bs vZ L xs me z0 s0 (pc + 1) ls (.null :: st) M) : ej_G p l e R s m args below meth c Q D cA a0 bs vZ L xs me z0 s0 pc ls st M :=
  fun H locs la hW hS hL hz hs => lv_null C.1 C.2.1 hd (k H locs la hW hS hL hz hs)
theorem sd_ldcS (C : ej_Cx p s m args meth c D cA a0 bs vZ L xs me) {n i : Nat} (hd : decode (ej_b me) pc = .ok (.ldc n, 2)) (hw : hasT (ej_own me) n i = true) (hi : i < 59) (k : ej_G p l e R s m args below meth c Q D cA a0 bs vZ L xs me z0 s0 (pc + 2) ls (.ref i :: st) M) : ej_G p l e R s m args below meth c Q D cA a0 bs vZ L xs me z0 s0 pc ls st M := by
  intro H locs la hW hS hL hz hs
  obtain ⟨e, he, h1, h2, h3⟩ := hasT_ok hw
  have hR := C.2.2.2.2.2.1.2.2.1 e he
  rw [← h1, ← h2, ← h3] at hR
  have hk := k H locs la hW hS hL hz hs
  have e1 : (Value.ref i :: st).map (ej_tr a0 bs vZ) = .ref (a0 i) :: st.map (ej_tr a0 bs vZ) := by simp [ej_tr, ej_ad, hi]
  rw [e1] at hk
  exact va_ldcS C.1 C.2.1 C.2.2.2.1 hR hd hk
-- locals
theorem lc_get {la : Array Slot} {i : Nat} {v : Value} (hL : ej_Lc a0 bs vZ (ej_mx me) la ls) (h : ls.getD i none = some v) : la[i]? = some (.val (ej_tr a0 bs vZ v)) := by
  refine hL.2.2.2 i v ?_
  rw [List.getD_eq_getElem?_getD] at h
  cases hq : ls[i]? with
  | none => rw [hq] at h; cases h
  | some w => rw [hq] at h; simp at h; rw [h]
theorem sd_iload (C : ej_Cx p s m args meth c D cA a0 bs vZ L xs me) {i : Nat} {x : Int32} (hd : decode (ej_b me) pc = .ok (.iload i, 2)) (h : ls.getD i none = some (.int x)) (k : ej_G p l e R s m args below meth c Q D cA a0 bs vZ L xs me z0 s0 (pc + 2) ls (.int x :: st) M) : ej_G p l e R s m args below meth c Q D cA a0 bs vZ L xs me z0 s0 pc ls st M :=
  fun H locs la hW hS hL hz hs => lv_iload C.1 C.2.1 hd (lc_get hL h) (k H locs la hW hS hL hz hs)
theorem sd_iload_n (C : ej_Cx p s m args meth c D cA a0 bs vZ L xs me) {n : Fin 4} {i : Nat} {x : Int32} (hd : decode (ej_b me) pc = .ok (.iload_n n, 1)) (hi : (n : Nat) = i) (h : ls.getD i none = some (.int x)) (k : ej_G p l e R s m args below meth c Q D cA a0 bs vZ L xs me z0 s0 (pc + 1) ls (.int x :: st) M) : ej_G p l e R s m args below meth c Q D cA a0 bs vZ L xs me z0 s0 pc ls st M :=
  fun H locs la hW hS hL hz hs => lv_iload_n C.1 C.2.1 hd hi (lc_get hL h) (k H locs la hW hS hL hz hs)
theorem sd_lload (C : ej_Cx p s m args meth c D cA a0 bs vZ L xs me) {i : Nat} {x : Int64} (hd : decode (ej_b me) pc = .ok (.lload i, 2)) (h : ls.getD i none = some (.long x)) (k : ej_G p l e R s m args below meth c Q D cA a0 bs vZ L xs me z0 s0 (pc + 2) ls (.long x :: st) M) : ej_G p l e R s m args below meth c Q D cA a0 bs vZ L xs me z0 s0 pc ls st M :=
  fun H locs la hW hS hL hz hs => lv_lload C.1 C.2.1 hd (lc_get hL h) (k H locs la hW hS hL hz hs)
theorem sd_lload_n (C : ej_Cx p s m args meth c D cA a0 bs vZ L xs me) {n : Fin 4} {i : Nat} {x : Int64} (hd : decode (ej_b me) pc = .ok (.lload_n n, 1)) (hi : (n : Nat) = i) (h : ls.getD i none = some (.long x)) (k : ej_G p l e R s m args below meth c Q D cA a0 bs vZ L xs me z0 s0 (pc + 1) ls (.long x :: st) M) : ej_G p l e R s m args below meth c Q D cA a0 bs vZ L xs me z0 s0 pc ls st M :=
  fun H locs la hW hS hL hz hs => lv_lload_n C.1 C.2.1 hd hi (lc_get hL h) (k H locs la hW hS hL hz hs)
theorem sd_aloadV (C : ej_Cx p s m args meth c D cA a0 bs vZ L xs me) {i : Nat} {v w : Value} (hd : decode (ej_b me) pc = .ok (.aload i, 2)) (h : ls.getD i none = some v) (hw : ej_tr a0 bs vZ v = w) (hv : w = .null ∨ ∃ q, w = .ref q) (k : ej_G p l e R s m args below meth c Q D cA a0 bs vZ L xs me z0 s0 (pc + 2) ls (v :: st) M) : ej_G p l e R s m args below meth c Q D cA a0 bs vZ L xs me z0 s0 pc ls st M := by
  intro H locs la hW hS hL hz hs
  have hk := k H locs la hW hS hL hz hs
  have hl := lc_get hL h
  rw [List.map_cons, hw] at hk
  rw [hw] at hl
  rcases hv with rfl | ⟨q, rfl⟩
  · exact lv_aloadN C.1 C.2.1 hd hl hk
  · exact lv_aload C.1 C.2.1 hd hl hk
theorem sd_aload_nV (C : ej_Cx p s m args meth c D cA a0 bs vZ L xs me) {n : Fin 4} {i : Nat} {v w : Value} (hd : decode (ej_b me) pc = .ok (.aload_n n, 1)) (hi : (n : Nat) = i) (h : ls.getD i none = some v) (hw : ej_tr a0 bs vZ v = w) (hv : w = .null ∨ ∃ q, w = .ref q) (k : ej_G p l e R s m args below meth c Q D cA a0 bs vZ L xs me z0 s0 (pc + 1) ls (v :: st) M) : ej_G p l e R s m args below meth c Q D cA a0 bs vZ L xs me z0 s0 pc ls st M := by
  intro H locs la hW hS hL hz hs
  have hk := k H locs la hW hS hL hz hs
  have hl := lc_get hL h
  rw [List.map_cons, hw] at hk
  rw [hw] at hl
  rcases hv with rfl | ⟨q, rfl⟩
  · exact lv_aload_nN C.1 C.2.1 hd hi hl hk
  · exact lv_aload_n C.1 C.2.1 hd hi hl hk
/-- my locals as the kit lists them -/
def ej_lv (a0 : Nat → Nat) (bs : Nat) (vZ : Value) (ls : ej_L) : List (Nat × Value) := (List.range ls.length).filterMap fun i => match ls.getD i none with
  | some v => some (i, ej_tr a0 bs vZ v)
  | none => none
theorem lv_mem {q : Nat × Value} : q ∈ ej_lv a0 bs vZ ls ↔ q.1 < ls.length ∧ ∃ v, ls.getD q.1 none = some v ∧ q.2 = ej_tr a0 bs vZ v := by
  unfold ej_lv
  rw [List.mem_filterMap]
  constructor
  · rintro ⟨i, hi, h⟩
    have hi := List.mem_range.mp hi
    cases hq : ls.getD i none with
    | none => rw [hq] at h; cases h
    | some v =>
      rw [hq] at h
      cases h
      exact ⟨hi, v, hq, rfl⟩
  · rintro ⟨h1, v, h2, h3⟩
    refine ⟨q.1, List.mem_range.mpr h1, ?_⟩
    rw [h2]
    show some (q.1, ej_tr a0 bs vZ v) = some q
    rw [← h3]
theorem gd_iff {i : Nat} {v : Value} : ls.getD i none = some v ↔ ls[i]? = some (some v) := by
  rw [List.getD_eq_getElem?_getD]
  cases ls[i]? with
  | none => simp
  | some w => simp
theorem lc_has {la : Array Slot} {nL : Nat} (hL : ej_Lc a0 bs vZ nL la ls) : lv_has la nL (ej_lv a0 bs vZ ls) := by
  refine ⟨hL.1, hL.2.2.1, fun q hq => ?_⟩
  obtain ⟨-, v, h1, h2⟩ := lv_mem.mp hq
  rw [h2]
  exact hL.2.2.2 _ _ (gd_iff.mp h1)
theorem tr_cat (hvz : vZ = .null ∨ ∃ t, vZ = .ref t) (v : Value) : (ej_tr a0 bs vZ v).category = v.category := by
  cases v <;> first | rfl | (show vZ.category = _; rcases hvz with rfl | ⟨t, rfl⟩ <;> rfl)
theorem clr_len (i : Nat) : (ej_clr ls i).length = ls.length := by
  cases i with
  | zero => rfl
  | succ j =>
    unfold ej_clr
    simp only
    split <;> simp
theorem clr_get {i j : Nat} {v : Value} (h : (ej_clr ls i)[j]? = some (some v)) : ls[j]? = some (some v) ∧ ¬ (j + 1 = i ∧ v.category = 2) := by
  cases i with
  | zero => exact ⟨h, by omega⟩
  | succ k =>
    unfold ej_clr at h
    simp only at h
    have key : ∀ w : Option Value, ls.getD k none = w → (∀ u, w = some u → u.category = 2 → (ls.set k none)[j]? = some (some v) → ls[j]? = some (some v) ∧ ¬ (j + 1 = k + 1 ∧ v.category = 2)) := by
      intro w hw u hu hc hs
      by_cases hjk : j = k
      · subst hjk
        rw [List.getElem?_set] at hs
        simp at hs
      · rw [List.getElem?_set_ne (fun q => hjk q.symm)] at hs
        exact ⟨hs, by omega⟩
    split at h
    · rename_i x hx
      exact key _ hx _ rfl rfl h
    · rename_i x hx
      exact key _ hx _ rfl rfl h
    · rename_i hx1 hx2
      refine ⟨h, ?_⟩
      rintro ⟨q1, q2⟩
      have hjk : j = k := by omega
      subst hjk
      have hg := gd_iff.mpr h
      cases v with
      | long y => exact hx1 y hg
      | double y => exact hx2 y hg
      | _ => simp [Value.category] at q2
theorem lc_s1 {la : Array Slot} {nL i : Nat} {v : Value} (hvz : vZ = .null ∨ ∃ t, vZ = .ref t) (hL : ej_Lc a0 bs vZ nL la ls) (hi : i < nL) (hc : v.category = 1) {la' : Array Slot} (h' : lv_has la' nL ((i, ej_tr a0 bs vZ v) :: (ej_lv a0 bs vZ ls).filter (fun q => !(q.1 == i) && !(q.1 + 1 == i && q.2.category == 2)))) : ej_Lc a0 bs vZ nL la' (ej_s1 ls i v) := by
  refine ⟨h'.1, by rw [ej_s1, List.length_set, clr_len]; exact hL.2.1, h'.2.1, fun j w hw => ?_⟩
  unfold ej_s1 at hw
  by_cases hij : i = j
  · subst hij
    rw [List.getElem?_set_self (by rw [clr_len, hL.2.1]; exact hi)] at hw
    cases hw
    exact h'.2.2 _ List.mem_cons_self
  · rw [List.getElem?_set_ne hij] at hw
    obtain ⟨h1, h2⟩ := clr_get hw
    refine h'.2.2 (j, ej_tr a0 bs vZ w) (List.mem_cons_of_mem _ (List.mem_filter.mpr ⟨lv_mem.mpr ⟨?_, w, gd_iff.mpr h1, rfl⟩, ?_⟩))
    · exact (List.getElem?_eq_some_iff.mp h1).1
    · simp only [Bool.and_eq_true, Bool.not_eq_true', beq_eq_false_iff_ne, ne_eq, Bool.and_eq_false_iff, tr_cat hvz]
      refine ⟨fun q => hij q.symm, ?_⟩
      by_cases q : j + 1 = i
      · exact Or.inr (fun z => h2 ⟨q, z⟩)
      · exact Or.inl q
theorem lc_s2 {la : Array Slot} {nL i : Nat} {v : Value} (hvz : vZ = .null ∨ ∃ t, vZ = .ref t) (hL : ej_Lc a0 bs vZ nL la ls) (hi : i + 1 < nL) {la' : Array Slot} (h' : lv_has la' nL ((i, ej_tr a0 bs vZ v) :: (ej_lv a0 bs vZ ls).filter (fun q => !(q.1 == i) && (!(q.1 == i + 1) && !(q.1 + 1 == i && q.2.category == 2))))) : ej_Lc a0 bs vZ nL la' (ej_s2 ls i v) := by
  refine ⟨h'.1, by rw [ej_s2, List.length_set, List.length_set, clr_len]; exact hL.2.1, h'.2.1, fun j w hw => ?_⟩
  unfold ej_s2 at hw
  by_cases hj1 : i + 1 = j
  · subst hj1
    rw [List.getElem?_set] at hw
    simp at hw
  · rw [List.getElem?_set_ne hj1] at hw
    by_cases hij : i = j
    · subst hij
      rw [List.getElem?_set_self (by rw [clr_len, hL.2.1]; omega)] at hw
      cases hw
      exact h'.2.2 _ List.mem_cons_self
    · rw [List.getElem?_set_ne hij] at hw
      obtain ⟨h1, h2⟩ := clr_get hw
      refine h'.2.2 (j, ej_tr a0 bs vZ w) (List.mem_cons_of_mem _ (List.mem_filter.mpr ⟨lv_mem.mpr ⟨?_, w, gd_iff.mpr h1, rfl⟩, ?_⟩))
      · exact (List.getElem?_eq_some_iff.mp h1).1
      · simp only [Bool.and_eq_true, Bool.not_eq_true', beq_eq_false_iff_ne, ne_eq, Bool.and_eq_false_iff, tr_cat hvz]
        refine ⟨fun q => hij q.symm, fun q => hj1 q.symm, ?_⟩
        by_cases q : j + 1 = i
        · exact Or.inr (fun z => h2 ⟨q, z⟩)
        · exact Or.inl q
theorem sd_istore (C : ej_Cx p s m args meth c D cA a0 bs vZ L xs me) {i : Nat} {x : Int32} (hd : decode (ej_b me) pc = .ok (.istore i, 2)) (hi : i < ls.length) (k : ej_G p l e R s m args below meth c Q D cA a0 bs vZ L xs me z0 s0 (pc + 2) (ej_s1 ls i (.int x)) st M) : ej_G p l e R s m args below meth c Q D cA a0 bs vZ L xs me z0 s0 pc ls (.int x :: st) M :=
  fun H locs la hW hS hL hz hs => lv_istore C.1 C.2.1 hd (lc_has hL) (by rw [← hL.2.1]; exact hi) rfl (fun la' hl' => k H locs la' hW hS (lc_s1 C.2.2.2.2.2.1.2.2.2.2.2 hL (by rw [← hL.2.1]; exact hi) rfl hl') hz hs)
theorem sd_istore_n (C : ej_Cx p s m args meth c D cA a0 bs vZ L xs me) {n : Fin 4} {i : Nat} {x : Int32} (hd : decode (ej_b me) pc = .ok (.istore_n n, 1)) (hn : (n : Nat) = i) (hi : i < ls.length) (k : ej_G p l e R s m args below meth c Q D cA a0 bs vZ L xs me z0 s0 (pc + 1) (ej_s1 ls i (.int x)) st M) : ej_G p l e R s m args below meth c Q D cA a0 bs vZ L xs me z0 s0 pc ls (.int x :: st) M :=
  fun H locs la hW hS hL hz hs => lv_istore_n C.1 C.2.1 hd hn (lc_has hL) (by rw [← hL.2.1]; exact hi) rfl (fun la' hl' => k H locs la' hW hS (lc_s1 C.2.2.2.2.2.1.2.2.2.2.2 hL (by rw [← hL.2.1]; exact hi) rfl hl') hz hs)
theorem sd_lstore (C : ej_Cx p s m args meth c D cA a0 bs vZ L xs me) {i : Nat} {x : Int64} (hd : decode (ej_b me) pc = .ok (.lstore i, 2)) (hi : i + 1 < ls.length) (k : ej_G p l e R s m args below meth c Q D cA a0 bs vZ L xs me z0 s0 (pc + 2) (ej_s2 ls i (.long x)) st M) : ej_G p l e R s m args below meth c Q D cA a0 bs vZ L xs me z0 s0 pc ls (.long x :: st) M :=
  fun H locs la hW hS hL hz hs => lv_lstore C.1 C.2.1 hd (lc_has hL) (by rw [← hL.2.1]; exact hi) rfl (fun la' hl' => k H locs la' hW hS (lc_s2 C.2.2.2.2.2.1.2.2.2.2.2 hL (by rw [← hL.2.1]; exact hi) hl') hz hs)
theorem sd_lstore_n (C : ej_Cx p s m args meth c D cA a0 bs vZ L xs me) {n : Fin 4} {i : Nat} {x : Int64} (hd : decode (ej_b me) pc = .ok (.lstore_n n, 1)) (hn : (n : Nat) = i) (hi : i + 1 < ls.length) (k : ej_G p l e R s m args below meth c Q D cA a0 bs vZ L xs me z0 s0 (pc + 1) (ej_s2 ls i (.long x)) st M) : ej_G p l e R s m args below meth c Q D cA a0 bs vZ L xs me z0 s0 pc ls (.long x :: st) M :=
  fun H locs la hW hS hL hz hs => lv_lstore_n C.1 C.2.1 hd hn (lc_has hL) (by rw [← hL.2.1]; exact hi) rfl (fun la' hl' => k H locs la' hW hS (lc_s2 C.2.2.2.2.2.1.2.2.2.2.2 hL (by rw [← hL.2.1]; exact hi) hl') hz hs)
theorem sd_astore (C : ej_Cx p s m args meth c D cA a0 bs vZ L xs me) {i : Nat} {q : Option Nat} (hd : decode (ej_b me) pc = .ok (.astore i, 2)) (hi : i < ls.length) (k : ej_G p l e R s m args below meth c Q D cA a0 bs vZ L xs me z0 s0 (pc + 2) (ej_s1 ls i (va_rf q)) st M) : ej_G p l e R s m args below meth c Q D cA a0 bs vZ L xs me z0 s0 pc ls (va_rf q :: st) M := by
  intro H locs la hW hS hL hz hs
  have hn : i < ej_mx me := by rw [← hL.2.1]; exact hi
  have hv := C.2.2.2.2.2.1.2.2.2.2.2
  cases q with
  | none => exact lv_astoreN C.1 C.2.1 hd (lc_has hL) hn rfl (fun la' hl' => k H locs la' hW hS (lc_s1 hv hL hn rfl hl') hz hs)
  | some x => exact lv_astore C.1 C.2.1 hd (lc_has hL) hn rfl (fun la' hl' => k H locs la' hW hS (lc_s1 (v := .ref x) hv hL hn rfl hl') hz hs)
theorem sd_astore_n (C : ej_Cx p s m args meth c D cA a0 bs vZ L xs me) {n : Fin 4} {i : Nat} {q : Option Nat} (hd : decode (ej_b me) pc = .ok (.astore_n n, 1)) (he : (n : Nat) = i) (hi : i < ls.length) (k : ej_G p l e R s m args below meth c Q D cA a0 bs vZ L xs me z0 s0 (pc + 1) (ej_s1 ls i (va_rf q)) st M) : ej_G p l e R s m args below meth c Q D cA a0 bs vZ L xs me z0 s0 pc ls (va_rf q :: st) M := by
  intro H locs la hW hS hL hz hs
  have hn : i < ej_mx me := by rw [← hL.2.1]; exact hi
  have hv := C.2.2.2.2.2.1.2.2.2.2.2
  cases q with
  | none => exact lv_astore_nN C.1 C.2.1 hd he (lc_has hL) hn rfl (fun la' hl' => k H locs la' hW hS (lc_s1 hv hL hn rfl hl') hz hs)
  | some x => exact lv_astore_n C.1 C.2.1 hd he (lc_has hL) hn rfl (fun la' hl' => k H locs la' hW hS (lc_s1 (v := .ref x) hv hL hn rfl hl') hz hs)
theorem sd_iinc (C : ej_Cx p s m args meth c D cA a0 bs vZ L xs me) {i : Nat} {n : Int} {x v : Int32} (hd : decode (ej_b me) pc = .ok (.iinc i n, 3)) (h : ls.getD i none = some (.int x)) (hv : x + Int32.ofInt n = v) (k : ej_G p l e R s m args below meth c Q D cA a0 bs vZ L xs me z0 s0 (pc + 3) (ej_s1 ls i (.int v)) st M) : ej_G p l e R s m args below meth c Q D cA a0 bs vZ L xs me z0 s0 pc ls st M := by
  intro H locs la hW hS hL hz hs
  have hm : (i, Value.int x) ∈ ej_lv a0 bs vZ ls := lv_mem.mpr ⟨(List.getElem?_eq_some_iff.mp (gd_iff.mp h)).1, _, h, rfl⟩
  obtain ⟨kk, hkk⟩ := List.getElem?_of_mem hm
  have hn : i < ej_mx me := by rw [← hL.2.1]; exact (List.getElem?_eq_some_iff.mp (gd_iff.mp h)).1
  exact lv_iinc C.1 C.2.1 hd (lc_has hL) hkk hv hn rfl (fun la' hl' => k H locs la' hW hS (lc_s1 (v := .int v) C.2.2.2.2.2.1.2.2.2.2.2 hL hn rfl hl') hz hs)
-- arithmetic
theorem sd_iadd (C : ej_Cx p s m args meth c D cA a0 bs vZ L xs me) {x y : Int32} (hd : decode (ej_b me) pc = .ok (.iadd, 1)) (k : ej_G p l e R s m args below meth c Q D cA a0 bs vZ L xs me z0 s0 (pc + 1) ls (.int (x + y) :: st) M) : ej_G p l e R s m args below meth c Q D cA a0 bs vZ L xs me z0 s0 pc ls (.int y :: .int x :: st) M :=
  fun H locs la hW hS hL hz hs => lv_iadd C.1 C.2.1 hd (k H locs la hW hS hL hz hs)
theorem sd_isub (C : ej_Cx p s m args meth c D cA a0 bs vZ L xs me) {x y : Int32} (hd : decode (ej_b me) pc = .ok (.isub, 1)) (k : ej_G p l e R s m args below meth c Q D cA a0 bs vZ L xs me z0 s0 (pc + 1) ls (.int (x - y) :: st) M) : ej_G p l e R s m args below meth c Q D cA a0 bs vZ L xs me z0 s0 pc ls (.int y :: .int x :: st) M :=
  fun H locs la hW hS hL hz hs => lv_isub C.1 C.2.1 hd (k H locs la hW hS hL hz hs)
theorem sd_imul (C : ej_Cx p s m args meth c D cA a0 bs vZ L xs me) {x y : Int32} (hd : decode (ej_b me) pc = .ok (.imul, 1)) (k : ej_G p l e R s m args below meth c Q D cA a0 bs vZ L xs me z0 s0 (pc + 1) ls (.int (x * y) :: st) M) : ej_G p l e R s m args below meth c Q D cA a0 bs vZ L xs me z0 s0 pc ls (.int y :: .int x :: st) M :=
  fun H locs la hW hS hL hz hs => lv_imul C.1 C.2.1 hd (k H locs la hW hS hL hz hs)
theorem sd_iand (C : ej_Cx p s m args meth c D cA a0 bs vZ L xs me) {x y : Int32} (hd : decode (ej_b me) pc = .ok (.iand, 1)) (k : ej_G p l e R s m args below meth c Q D cA a0 bs vZ L xs me z0 s0 (pc + 1) ls (.int (x &&& y) :: st) M) : ej_G p l e R s m args below meth c Q D cA a0 bs vZ L xs me z0 s0 pc ls (.int y :: .int x :: st) M :=
  fun H locs la hW hS hL hz hs => lv_iand C.1 C.2.1 hd (k H locs la hW hS hL hz hs)
theorem sd_ior (C : ej_Cx p s m args meth c D cA a0 bs vZ L xs me) {x y : Int32} (hd : decode (ej_b me) pc = .ok (.ior, 1)) (k : ej_G p l e R s m args below meth c Q D cA a0 bs vZ L xs me z0 s0 (pc + 1) ls (.int (x ||| y) :: st) M) : ej_G p l e R s m args below meth c Q D cA a0 bs vZ L xs me z0 s0 pc ls (.int y :: .int x :: st) M :=
  fun H locs la hW hS hL hz hs => lv_ior C.1 C.2.1 hd (k H locs la hW hS hL hz hs)
theorem sd_ixor (C : ej_Cx p s m args meth c D cA a0 bs vZ L xs me) {x y : Int32} (hd : decode (ej_b me) pc = .ok (.ixor, 1)) (k : ej_G p l e R s m args below meth c Q D cA a0 bs vZ L xs me z0 s0 (pc + 1) ls (.int (x ^^^ y) :: st) M) : ej_G p l e R s m args below meth c Q D cA a0 bs vZ L xs me z0 s0 pc ls (.int y :: .int x :: st) M :=
  fun H locs la hW hS hL hz hs => lv_ixor C.1 C.2.1 hd (k H locs la hW hS hL hz hs)
theorem sd_ishl (C : ej_Cx p s m args meth c D cA a0 bs vZ L xs me) {x y : Int32} (hd : decode (ej_b me) pc = .ok (.ishl, 1)) (k : ej_G p l e R s m args below meth c Q D cA a0 bs vZ L xs me z0 s0 (pc + 1) ls (.int (x <<< (y &&& 31)) :: st) M) : ej_G p l e R s m args below meth c Q D cA a0 bs vZ L xs me z0 s0 pc ls (.int y :: .int x :: st) M :=
  fun H locs la hW hS hL hz hs => lv_ishl C.1 C.2.1 hd (k H locs la hW hS hL hz hs)
theorem sd_ishr (C : ej_Cx p s m args meth c D cA a0 bs vZ L xs me) {x y : Int32} (hd : decode (ej_b me) pc = .ok (.ishr, 1)) (k : ej_G p l e R s m args below meth c Q D cA a0 bs vZ L xs me z0 s0 (pc + 1) ls (.int (x >>> (y &&& 31)) :: st) M) : ej_G p l e R s m args below meth c Q D cA a0 bs vZ L xs me z0 s0 pc ls (.int y :: .int x :: st) M :=
  fun H locs la hW hS hL hz hs => lv_ishr C.1 C.2.1 hd (k H locs la hW hS hL hz hs)
theorem sd_land (C : ej_Cx p s m args meth c D cA a0 bs vZ L xs me) {x y : Int64} (hd : decode (ej_b me) pc = .ok (.land, 1)) (k : ej_G p l e R s m args below meth c Q D cA a0 bs vZ L xs me z0 s0 (pc + 1) ls (.long (x &&& y) :: st) M) : ej_G p l e R s m args below meth c Q D cA a0 bs vZ L xs me z0 s0 pc ls (.long y :: .long x :: st) M :=
  fun H locs la hW hS hL hz hs => lv_land C.1 C.2.1 hd (k H locs la hW hS hL hz hs)
theorem sd_lor (C : ej_Cx p s m args meth c D cA a0 bs vZ L xs me) {x y : Int64} (hd : decode (ej_b me) pc = .ok (.lor, 1)) (k : ej_G p l e R s m args below meth c Q D cA a0 bs vZ L xs me z0 s0 (pc + 1) ls (.long (x ||| y) :: st) M) : ej_G p l e R s m args below meth c Q D cA a0 bs vZ L xs me z0 s0 pc ls (.long y :: .long x :: st) M :=
  fun H locs la hW hS hL hz hs => lv_lor C.1 C.2.1 hd (k H locs la hW hS hL hz hs)
theorem sd_lxor (C : ej_Cx p s m args meth c D cA a0 bs vZ L xs me) {x y : Int64} (hd : decode (ej_b me) pc = .ok (.lxor, 1)) (k : ej_G p l e R s m args below meth c Q D cA a0 bs vZ L xs me z0 s0 (pc + 1) ls (.long (x ^^^ y) :: st) M) : ej_G p l e R s m args below meth c Q D cA a0 bs vZ L xs me z0 s0 pc ls (.long y :: .long x :: st) M :=
  fun H locs la hW hS hL hz hs => lv_lxor C.1 C.2.1 hd (k H locs la hW hS hL hz hs)
theorem sd_lsub (C : ej_Cx p s m args meth c D cA a0 bs vZ L xs me) {x y : Int64} (hd : decode (ej_b me) pc = .ok (.lsub, 1)) (k : ej_G p l e R s m args below meth c Q D cA a0 bs vZ L xs me z0 s0 (pc + 1) ls (.long (x - y) :: st) M) : ej_G p l e R s m args below meth c Q D cA a0 bs vZ L xs me z0 s0 pc ls (.long y :: .long x :: st) M :=
  fun H locs la hW hS hL hz hs => lv_lsub C.1 C.2.1 hd (k H locs la hW hS hL hz hs)
theorem sd_idiv (C : ej_Cx p s m args meth c D cA a0 bs vZ L xs me) {x y : Int32} (hd : decode (ej_b me) pc = .ok (.idiv, 1)) (h : ¬ y = 0) (k : ej_G p l e R s m args below meth c Q D cA a0 bs vZ L xs me z0 s0 (pc + 1) ls (.int (x / y) :: st) M) : ej_G p l e R s m args below meth c Q D cA a0 bs vZ L xs me z0 s0 pc ls (.int y :: .int x :: st) M :=
  fun H locs la hW hS hL hz hs => lv_idiv C.1 C.2.1 hd h (k H locs la hW hS hL hz hs)
theorem sd_irem (C : ej_Cx p s m args meth c D cA a0 bs vZ L xs me) {x y : Int32} (hd : decode (ej_b me) pc = .ok (.irem, 1)) (h : ¬ y = 0) (k : ej_G p l e R s m args below meth c Q D cA a0 bs vZ L xs me z0 s0 (pc + 1) ls (.int (x - x / y * y) :: st) M) : ej_G p l e R s m args below meth c Q D cA a0 bs vZ L xs me z0 s0 pc ls (.int y :: .int x :: st) M :=
  fun H locs la hW hS hL hz hs => lv_irem C.1 C.2.1 hd h (k H locs la hW hS hL hz hs)
theorem sd_iushr (C : ej_Cx p s m args meth c D cA a0 bs vZ L xs me) {x y : Int32} (hd : decode (ej_b me) pc = .ok (.iushr, 1)) (k : ej_G p l e R s m args below meth c Q D cA a0 bs vZ L xs me z0 s0 (pc + 1) ls (.int (ej_bin 8 x y) :: st) M) : ej_G p l e R s m args below meth c Q D cA a0 bs vZ L xs me z0 s0 pc ls (.int y :: .int x :: st) M :=
  fun H locs la hW hS hL hz hs => lv_iushr C.1 C.2.1 hd rfl (k H locs la hW hS hL hz hs)
theorem sd_lshl (C : ej_Cx p s m args meth c D cA a0 bs vZ L xs me) {x : Int64} {y : Int32} (hd : decode (ej_b me) pc = .ok (.lshl, 1)) (k : ej_G p l e R s m args below meth c Q D cA a0 bs vZ L xs me z0 s0 (pc + 1) ls (.long (ej_ls 0 x y) :: st) M) : ej_G p l e R s m args below meth c Q D cA a0 bs vZ L xs me z0 s0 pc ls (.int y :: .long x :: st) M :=
  fun H locs la hW hS hL hz hs => lv_lshl C.1 C.2.1 hd rfl (k H locs la hW hS hL hz hs)
theorem sd_lshr (C : ej_Cx p s m args meth c D cA a0 bs vZ L xs me) {x : Int64} {y : Int32} (hd : decode (ej_b me) pc = .ok (.lshr, 1)) (k : ej_G p l e R s m args below meth c Q D cA a0 bs vZ L xs me z0 s0 (pc + 1) ls (.long (ej_ls 1 x y) :: st) M) : ej_G p l e R s m args below meth c Q D cA a0 bs vZ L xs me z0 s0 pc ls (.int y :: .long x :: st) M :=
  fun H locs la hW hS hL hz hs => lv_lshr C.1 C.2.1 hd rfl (k H locs la hW hS hL hz hs)
theorem sd_i2l (C : ej_Cx p s m args meth c D cA a0 bs vZ L xs me) {x : Int32} (hd : decode (ej_b me) pc = .ok (.i2l, 1)) (k : ej_G p l e R s m args below meth c Q D cA a0 bs vZ L xs me z0 s0 (pc + 1) ls (.long x.toInt64 :: st) M) : ej_G p l e R s m args below meth c Q D cA a0 bs vZ L xs me z0 s0 pc ls (.int x :: st) M :=
  fun H locs la hW hS hL hz hs => lv_i2l C.1 C.2.1 hd rfl (k H locs la hW hS hL hz hs)
theorem sd_i2b (C : ej_Cx p s m args meth c D cA a0 bs vZ L xs me) {x : Int32} (hd : decode (ej_b me) pc = .ok (.i2b, 1)) (k : ej_G p l e R s m args below meth c Q D cA a0 bs vZ L xs me z0 s0 (pc + 1) ls (.int x.toInt8.toInt32 :: st) M) : ej_G p l e R s m args below meth c Q D cA a0 bs vZ L xs me z0 s0 pc ls (.int x :: st) M :=
  fun H locs la hW hS hL hz hs => lv_i2b C.1 C.2.1 hd rfl (k H locs la hW hS hL hz hs)
theorem sd_i2c (C : ej_Cx p s m args meth c D cA a0 bs vZ L xs me) {x : Int32} (hd : decode (ej_b me) pc = .ok (.i2c, 1)) (k : ej_G p l e R s m args below meth c Q D cA a0 bs vZ L xs me z0 s0 (pc + 1) ls (.int (x.toUInt32 % 65536).toInt32 :: st) M) : ej_G p l e R s m args below meth c Q D cA a0 bs vZ L xs me z0 s0 pc ls (.int x :: st) M :=
  fun H locs la hW hS hL hz hs => lv_i2c C.1 C.2.1 hd rfl (k H locs la hW hS hL hz hs)
theorem sd_lcmp (C : ej_Cx p s m args meth c D cA a0 bs vZ L xs me) {x y : Int64} (hd : decode (ej_b me) pc = .ok (.lcmp, 1)) (k : ej_G p l e R s m args below meth c Q D cA a0 bs vZ L xs me z0 s0 (pc + 1) ls (.int (lg_cmp x y) :: st) M) : ej_G p l e R s m args below meth c Q D cA a0 bs vZ L xs me z0 s0 pc ls (.long y :: .long x :: st) M :=
  fun H locs la hW hS hL hz hs => W.lcmp C.1 C.2.1 hd (k H locs la hW hS hL hz hs)
theorem sd_dup (C : ej_Cx p s m args meth c D cA a0 bs vZ L xs me) {v : Value} (hd : decode (ej_b me) pc = .ok (.dup, 1)) (hv : v.category = 1) (k : ej_G p l e R s m args below meth c Q D cA a0 bs vZ L xs me z0 s0 (pc + 1) ls (v :: v :: st) M) : ej_G p l e R s m args below meth c Q D cA a0 bs vZ L xs me z0 s0 pc ls (v :: st) M :=
  fun H locs la hW hS hL hz hs => lv_dup C.1 C.2.1 hd ((tr_cat C.2.2.2.2.2.1.2.2.2.2.2 v).trans hv) (k H locs la hW hS hL hz hs)
theorem sd_dup2 (C : ej_Cx p s m args meth c D cA a0 bs vZ L xs me) {v w : Value} (hd : decode (ej_b me) pc = .ok (.dup2, 1)) (hv : v.category = 1) (hw : w.category = 1) (k : ej_G p l e R s m args below meth c Q D cA a0 bs vZ L xs me z0 s0 (pc + 1) ls (v :: w :: v :: w :: st) M) : ej_G p l e R s m args below meth c Q D cA a0 bs vZ L xs me z0 s0 pc ls (v :: w :: st) M :=
  fun H locs la hW hS hL hz hs => lv_dup2_11 C.1 C.2.1 hd ((tr_cat C.2.2.2.2.2.1.2.2.2.2.2 v).trans hv) ((tr_cat C.2.2.2.2.2.1.2.2.2.2.2 w).trans hw) (k H locs la hW hS hL hz hs)
theorem sd_pop (C : ej_Cx p s m args meth c D cA a0 bs vZ L xs me) {v : Value} (hd : decode (ej_b me) pc = .ok (.pop, 1)) (hv : v.category = 1) (k : ej_G p l e R s m args below meth c Q D cA a0 bs vZ L xs me z0 s0 (pc + 1) ls st M) : ej_G p l e R s m args below meth c Q D cA a0 bs vZ L xs me z0 s0 pc ls (v :: st) M :=
  fun H locs la hW hS hL hz hs => lv_pop C.1 C.2.1 hd ((tr_cat C.2.2.2.2.2.1.2.2.2.2.2 v).trans hv) (k H locs la hW hS hL hz hs)
-- branches
theorem sd_goto (C : ej_Cx p s m args meth c D cA a0 bs vZ L xs me) {off : Int} {tgt : Nat} (hd : decode (ej_b me) pc = .ok (.goto off, 3)) (ht : (pc : Int) + off = (tgt : Int)) (k : ej_G p l e R s m args below meth c Q D cA a0 bs vZ L xs me z0 s0 tgt ls st M) : ej_G p l e R s m args below meth c Q D cA a0 bs vZ L xs me z0 s0 pc ls st M :=
  fun H locs la hW hS hL hz hs => lv_goto C.1 C.2.1 hd ht (k H locs la hW hS hL hz hs)
theorem sd_if_eq (C : ej_Cx p s m args meth c D cA a0 bs vZ L xs me) {x : Int32} {off : Int} {tgt : Nat} (hd : decode (ej_b me) pc = .ok (.ifCond .eq off, 3)) (ht : (pc : Int) + off = (tgt : Int)) (kt : x = 0 → ej_G p l e R s m args below meth c Q D cA a0 bs vZ L xs me z0 s0 tgt ls st M) (kf : ¬ x = 0 → ej_G p l e R s m args below meth c Q D cA a0 bs vZ L xs me z0 s0 (pc + 3) ls st M) : ej_G p l e R s m args below meth c Q D cA a0 bs vZ L xs me z0 s0 pc ls (.int x :: st) M :=
  fun H locs la hW hS hL hz hs => lv_if_eq C.1 C.2.1 hd ht (fun q => kt q H locs la hW hS hL hz hs) (fun q => kf q H locs la hW hS hL hz hs)
theorem sd_icmp_eq (C : ej_Cx p s m args meth c D cA a0 bs vZ L xs me) {x y : Int32} {off : Int} {tgt : Nat} (hd : decode (ej_b me) pc = .ok (.if_icmp .eq off, 3)) (ht : (pc : Int) + off = (tgt : Int)) (kt : x = y → ej_G p l e R s m args below meth c Q D cA a0 bs vZ L xs me z0 s0 tgt ls st M) (kf : ¬ x = y → ej_G p l e R s m args below meth c Q D cA a0 bs vZ L xs me z0 s0 (pc + 3) ls st M) : ej_G p l e R s m args below meth c Q D cA a0 bs vZ L xs me z0 s0 pc ls (.int y :: .int x :: st) M :=
  fun H locs la hW hS hL hz hs => lv_icmp_eq C.1 C.2.1 hd ht (fun q => kt q H locs la hW hS hL hz hs) (fun q => kf q H locs la hW hS hL hz hs)
theorem sd_if_ne (C : ej_Cx p s m args meth c D cA a0 bs vZ L xs me) {x : Int32} {off : Int} {tgt : Nat} (hd : decode (ej_b me) pc = .ok (.ifCond .ne off, 3)) (ht : (pc : Int) + off = (tgt : Int)) (kt : ¬ x = 0 → ej_G p l e R s m args below meth c Q D cA a0 bs vZ L xs me z0 s0 tgt ls st M) (kf : x = 0 → ej_G p l e R s m args below meth c Q D cA a0 bs vZ L xs me z0 s0 (pc + 3) ls st M) : ej_G p l e R s m args below meth c Q D cA a0 bs vZ L xs me z0 s0 pc ls (.int x :: st) M :=
  fun H locs la hW hS hL hz hs => lv_if_ne C.1 C.2.1 hd ht (fun q => kt q H locs la hW hS hL hz hs) (fun q => kf q H locs la hW hS hL hz hs)
theorem sd_icmp_ne (C : ej_Cx p s m args meth c D cA a0 bs vZ L xs me) {x y : Int32} {off : Int} {tgt : Nat} (hd : decode (ej_b me) pc = .ok (.if_icmp .ne off, 3)) (ht : (pc : Int) + off = (tgt : Int)) (kt : ¬ x = y → ej_G p l e R s m args below meth c Q D cA a0 bs vZ L xs me z0 s0 tgt ls st M) (kf : x = y → ej_G p l e R s m args below meth c Q D cA a0 bs vZ L xs me z0 s0 (pc + 3) ls st M) : ej_G p l e R s m args below meth c Q D cA a0 bs vZ L xs me z0 s0 pc ls (.int y :: .int x :: st) M :=
  fun H locs la hW hS hL hz hs => lv_icmp_ne C.1 C.2.1 hd ht (fun q => kt q H locs la hW hS hL hz hs) (fun q => kf q H locs la hW hS hL hz hs)
theorem sd_if_lt (C : ej_Cx p s m args meth c D cA a0 bs vZ L xs me) {x : Int32} {off : Int} {tgt : Nat} (hd : decode (ej_b me) pc = .ok (.ifCond .lt off, 3)) (ht : (pc : Int) + off = (tgt : Int)) (kt : x < 0 → ej_G p l e R s m args below meth c Q D cA a0 bs vZ L xs me z0 s0 tgt ls st M) (kf : ¬ x < 0 → ej_G p l e R s m args below meth c Q D cA a0 bs vZ L xs me z0 s0 (pc + 3) ls st M) : ej_G p l e R s m args below meth c Q D cA a0 bs vZ L xs me z0 s0 pc ls (.int x :: st) M :=
  fun H locs la hW hS hL hz hs => lv_if_lt C.1 C.2.1 hd ht (fun q => kt q H locs la hW hS hL hz hs) (fun q => kf q H locs la hW hS hL hz hs)
theorem sd_icmp_lt (C : ej_Cx p s m args meth c D cA a0 bs vZ L xs me) {x y : Int32} {off : Int} {tgt : Nat} (hd : decode (ej_b me) pc = .ok (.if_icmp .lt off, 3)) (ht : (pc : Int) + off = (tgt : Int)) (kt : x < y → ej_G p l e R s m args below meth c Q D cA a0 bs vZ L xs me z0 s0 tgt ls st M) (kf : ¬ x < y → ej_G p l e R s m args below meth c Q D cA a0 bs vZ L xs me z0 s0 (pc + 3) ls st M) : ej_G p l e R s m args below meth c Q D cA a0 bs vZ L xs me z0 s0 pc ls (.int y :: .int x :: st) M :=
  fun H locs la hW hS hL hz hs => lv_icmp_lt C.1 C.2.1 hd ht (fun q => kt q H locs la hW hS hL hz hs) (fun q => kf q H locs la hW hS hL hz hs)
theorem sd_if_ge (C : ej_Cx p s m args meth c D cA a0 bs vZ L xs me) {x : Int32} {off : Int} {tgt : Nat} (hd : decode (ej_b me) pc = .ok (.ifCond .ge off, 3)) (ht : (pc : Int) + off = (tgt : Int)) (kt : 0 ≤ x → ej_G p l e R s m args below meth c Q D cA a0 bs vZ L xs me z0 s0 tgt ls st M) (kf : ¬ 0 ≤ x → ej_G p l e R s m args below meth c Q D cA a0 bs vZ L xs me z0 s0 (pc + 3) ls st M) : ej_G p l e R s m args below meth c Q D cA a0 bs vZ L xs me z0 s0 pc ls (.int x :: st) M :=
  fun H locs la hW hS hL hz hs => lv_if_ge C.1 C.2.1 hd ht (fun q => kt q H locs la hW hS hL hz hs) (fun q => kf q H locs la hW hS hL hz hs)
theorem sd_icmp_ge (C : ej_Cx p s m args meth c D cA a0 bs vZ L xs me) {x y : Int32} {off : Int} {tgt : Nat} (hd : decode (ej_b me) pc = .ok (.if_icmp .ge off, 3)) (ht : (pc : Int) + off = (tgt : Int)) (kt : y ≤ x → ej_G p l e R s m args below meth c Q D cA a0 bs vZ L xs me z0 s0 tgt ls st M) (kf : ¬ y ≤ x → ej_G p l e R s m args below meth c Q D cA a0 bs vZ L xs me z0 s0 (pc + 3) ls st M) : ej_G p l e R s m args below meth c Q D cA a0 bs vZ L xs me z0 s0 pc ls (.int y :: .int x :: st) M :=
  fun H locs la hW hS hL hz hs => lv_icmp_ge C.1 C.2.1 hd ht (fun q => kt q H locs la hW hS hL hz hs) (fun q => kf q H locs la hW hS hL hz hs)
theorem sd_if_gt (C : ej_Cx p s m args meth c D cA a0 bs vZ L xs me) {x : Int32} {off : Int} {tgt : Nat} (hd : decode (ej_b me) pc = .ok (.ifCond .gt off, 3)) (ht : (pc : Int) + off = (tgt : Int)) (kt : 0 < x → ej_G p l e R s m args below meth c Q D cA a0 bs vZ L xs me z0 s0 tgt ls st M) (kf : ¬ 0 < x → ej_G p l e R s m args below meth c Q D cA a0 bs vZ L xs me z0 s0 (pc + 3) ls st M) : ej_G p l e R s m args below meth c Q D cA a0 bs vZ L xs me z0 s0 pc ls (.int x :: st) M :=
  fun H locs la hW hS hL hz hs => lv_if_gt C.1 C.2.1 hd ht (fun q => kt q H locs la hW hS hL hz hs) (fun q => kf q H locs la hW hS hL hz hs)
theorem sd_icmp_gt (C : ej_Cx p s m args meth c D cA a0 bs vZ L xs me) {x y : Int32} {off : Int} {tgt : Nat} (hd : decode (ej_b me) pc = .ok (.if_icmp .gt off, 3)) (ht : (pc : Int) + off = (tgt : Int)) (kt : y < x → ej_G p l e R s m args below meth c Q D cA a0 bs vZ L xs me z0 s0 tgt ls st M) (kf : ¬ y < x → ej_G p l e R s m args below meth c Q D cA a0 bs vZ L xs me z0 s0 (pc + 3) ls st M) : ej_G p l e R s m args below meth c Q D cA a0 bs vZ L xs me z0 s0 pc ls (.int y :: .int x :: st) M :=
  fun H locs la hW hS hL hz hs => lv_icmp_gt C.1 C.2.1 hd ht (fun q => kt q H locs la hW hS hL hz hs) (fun q => kf q H locs la hW hS hL hz hs)
theorem sd_if_le (C : ej_Cx p s m args meth c D cA a0 bs vZ L xs me) {x : Int32} {off : Int} {tgt : Nat} (hd : decode (ej_b me) pc = .ok (.ifCond .le off, 3)) (ht : (pc : Int) + off = (tgt : Int)) (kt : x ≤ 0 → ej_G p l e R s m args below meth c Q D cA a0 bs vZ L xs me z0 s0 tgt ls st M) (kf : ¬ x ≤ 0 → ej_G p l e R s m args below meth c Q D cA a0 bs vZ L xs me z0 s0 (pc + 3) ls st M) : ej_G p l e R s m args below meth c Q D cA a0 bs vZ L xs me z0 s0 pc ls (.int x :: st) M :=
  fun H locs la hW hS hL hz hs => lv_if_le C.1 C.2.1 hd ht (fun q => kt q H locs la hW hS hL hz hs) (fun q => kf q H locs la hW hS hL hz hs)
theorem sd_icmp_le (C : ej_Cx p s m args meth c D cA a0 bs vZ L xs me) {x y : Int32} {off : Int} {tgt : Nat} (hd : decode (ej_b me) pc = .ok (.if_icmp .le off, 3)) (ht : (pc : Int) + off = (tgt : Int)) (kt : x ≤ y → ej_G p l e R s m args below meth c Q D cA a0 bs vZ L xs me z0 s0 tgt ls st M) (kf : ¬ x ≤ y → ej_G p l e R s m args below meth c Q D cA a0 bs vZ L xs me z0 s0 (pc + 3) ls st M) : ej_G p l e R s m args below meth c Q D cA a0 bs vZ L xs me z0 s0 pc ls (.int y :: .int x :: st) M :=
  fun H locs la hW hS hL hz hs => lv_icmp_le C.1 C.2.1 hd ht (fun q => kt q H locs la hW hS hL hz hs) (fun q => kf q H locs la hW hS hL hz hs)
theorem sd_ifnull0 (C : ej_Cx p s m args meth c D cA a0 bs vZ L xs me) {off : Int} {tgt : Nat} (hd : decode (ej_b me) pc = .ok (.ifnull off, 3)) (ht : (pc : Int) + off = (tgt : Int)) (k : ej_G p l e R s m args below meth c Q D cA a0 bs vZ L xs me z0 s0 tgt ls st M) : ej_G p l e R s m args below meth c Q D cA a0 bs vZ L xs me z0 s0 pc ls (.null :: st) M :=
  fun H locs la hW hS hL hz hs => lv_ifnullN C.1 C.2.1 hd ht (k H locs la hW hS hL hz hs)
theorem sd_ifnull1 (C : ej_Cx p s m args meth c D cA a0 bs vZ L xs me) {off : Int} {x : Nat} (hd : decode (ej_b me) pc = .ok (.ifnull off, 3)) (k : ej_G p l e R s m args below meth c Q D cA a0 bs vZ L xs me z0 s0 (pc + 3) ls st M) : ej_G p l e R s m args below meth c Q D cA a0 bs vZ L xs me z0 s0 pc ls (.ref x :: st) M :=
  fun H locs la hW hS hL hz hs => lv_ifnull C.1 C.2.1 hd (k H locs la hW hS hL hz hs)
theorem sd_ifnonnull0 (C : ej_Cx p s m args meth c D cA a0 bs vZ L xs me) {off : Int} (hd : decode (ej_b me) pc = .ok (.ifnonnull off, 3)) (k : ej_G p l e R s m args below meth c Q D cA a0 bs vZ L xs me z0 s0 (pc + 3) ls st M) : ej_G p l e R s m args below meth c Q D cA a0 bs vZ L xs me z0 s0 pc ls (.null :: st) M :=
  fun H locs la hW hS hL hz hs => lv_ifnonnullN C.1 C.2.1 hd (k H locs la hW hS hL hz hs)
theorem sd_ifnonnull1 (C : ej_Cx p s m args meth c D cA a0 bs vZ L xs me) {off : Int} {tgt x : Nat} (hd : decode (ej_b me) pc = .ok (.ifnonnull off, 3)) (ht : (pc : Int) + off = (tgt : Int)) (k : ej_G p l e R s m args below meth c Q D cA a0 bs vZ L xs me z0 s0 tgt ls st M) : ej_G p l e R s m args below meth c Q D cA a0 bs vZ L xs me z0 s0 pc ls (.ref x :: st) M :=
  fun H locs la hW hS hL hz hs => lv_ifnonnull C.1 C.2.1 hd ht (k H locs la hW hS hL hz hs)
theorem sd_tableOut (C : ej_Cx p s m args meth c D cA a0 bs vZ L xs me) {df lo hi : Int} {offs : Array Int} {len tgt : Nat} {x : Int32} (hd : decode (ej_b me) pc = .ok (.tableswitch df lo hi offs, len)) (h : x.toInt < lo ∨ hi < x.toInt) (ht : (pc : Int) + df = (tgt : Int)) (k : ej_G p l e R s m args below meth c Q D cA a0 bs vZ L xs me z0 s0 tgt ls st M) : ej_G p l e R s m args below meth c Q D cA a0 bs vZ L xs me z0 s0 pc ls (.int x :: st) M :=
  fun H locs la hW hS hL hz hs => lv_tableOut C.1 C.2.1 hd h ht (k H locs la hW hS hL hz hs)
theorem sd_tableIn (C : ej_Cx p s m args meth c D cA a0 bs vZ L xs me) {df lo hi off : Int} {offs : Array Int} {len tgt : Nat} {x : Int32} (hd : decode (ej_b me) pc = .ok (.tableswitch df lo hi offs, len)) (h1 : ¬ x.toInt < lo) (h2 : ¬ hi < x.toInt) (ho : offs[(x.toInt - lo).toNat]? = some off) (ht : (pc : Int) + off = (tgt : Int)) (k : ej_G p l e R s m args below meth c Q D cA a0 bs vZ L xs me z0 s0 tgt ls st M) : ej_G p l e R s m args below meth c Q D cA a0 bs vZ L xs me z0 s0 pc ls (.int x :: st) M :=
  fun H locs la hW hS hL hz hs => lv_tableIn C.1 C.2.1 hd h1 h2 ho ht (k H locs la hW hS hL hz hs)
-- fields
theorem fs_get {o cc k : Nat} (hk : k < NN cc) : (ej_fs a0 bs M o cc)[k]? = some (ej_fv a0 bs M o cc k) := by simp [ej_fs, hk]
theorem ce_obj {o cc : Nat} (hc : mC M o = cc) (h : cc < 10) : ej_ce cA a0 bs M o = .inr (cc, ej_fs a0 bs M o cc) := by simp [ej_ce, hc, h]
theorem tr_rf (q : Option Nat) : ej_tr a0 bs vZ (va_rf q) = va_rf (q.map (ej_ad a0 bs)) := by cases q <;> rfl
theorem tr_ref (o : Nat) : ej_tr a0 bs vZ (.ref o) = .ref (ej_ad a0 bs o) := rfl
theorem sd_get (C : ej_Cx p s m args meth c D cA a0 bs vZ L xs me) {ix cc k o : Nat} {v : Value} (hd : decode (ej_b me) pc = .ok (.getfield ix, 3)) (hw : hasF (ej_own me) ix cc k = true) (ho : mC M o = cc) (hv : ej_fv a0 bs M o cc k = ej_tr a0 bs vZ v) (kk : ej_G p l e R s m args below meth c Q D cA a0 bs vZ L xs me z0 s0 (pc + 3) ls (v :: st) M) : ej_G p l e R s m args below meth c Q D cA a0 bs vZ L xs me z0 s0 pc ls (.ref o :: st) M := by
  intro H locs la hW hS hL hz hs
  obtain ⟨hl, hc, hk⟩ := hasF_ok hw
  obtain ⟨h59, hlt⟩ := wp_id hW ho (Or.inl hc)
  have hg := w_get (cA := cA) (a0 := a0) (bs := bs) h59 hlt
  rw [ce_obj ho hc] at hg
  have hkk := kk H locs la hW hS hL hz hs
  exact va_get C.1 C.2.1 C.2.2.2.2.1 (lay_in hc) C.2.2.2.1 C.2.2.2.2.2.1.1 hW.1 _ hg (vw_at hc) k hk (C.2.2.2.2.1 _ hl) (fun x hx => by rw [← fow_ok cc hc k hk]; exact hx) ((fs_get hk).trans (by rw [hv])) hd hkk
theorem wp_next {M' : ej_Mem} {H H1 : Heap} (hW : ej_WP D cA a0 bs L xs M H) (hz : mZ M' = mZ M) (hC : mC M' = mC M) (hCM : ej_CM M M') (hP : va_P D ej_vw (ej_w cA a0 bs M') H1) (hH : H1.size = H.size) : ej_WP D cA a0 bs L xs M' H1 := by
  obtain ⟨-, h2, h3, h4, h5, h6⟩ := hW
  refine ⟨hP, by rw [hH, h2, hz], by rw [hz]; exact h3, fun i hi => ?_, fun i hi => by rw [hC]; exact h5 i (by rw [← hz]; exact hi), fun i h1 h2 => by rw [hC]; exact h6 i h1 (by rw [← hz]; exact h2)⟩
  obtain ⟨a1, a2, a3, a4, a5⟩ := h4 i hi
  obtain ⟨b1, b2, b3, b4, b5⟩ := hCM i hi
  exact ⟨b1.trans a1, b2.trans a2, b3.trans a3, b4.trans a4, b5.trans a5⟩
theorem cm_of {M' : ej_Mem} {o : Nat} (ho : 59 ≤ o) (h : ∀ i, i ≠ o → mC M' i = mC M i ∧ mN M' i = mN M i ∧ mI M' i = mI M i ∧ mR M' i = mR M i ∧ aI M' i = aI M i) : ej_CM M M' := fun i hi => h i (by omega)
theorem w_ad {o : Nat} (ho : 59 ≤ o) : ej_A bs (ej_ad a0 bs o) := by
  have : ¬ o < 59 := by omega
  simp [ej_A, ej_ad, this]
set_option maxHeartbeats 1000000 in
theorem sd_put (C : ej_Cx p s m args meth c D cA a0 bs vZ L xs me) {ix cc k o : Nat} {v : Value} {M' : ej_Mem} (hd : decode (ej_b me) pc = .ok (.putfield ix, 3)) (hw : hasF (ej_own me) ix cc k = true) (hfin : (TT cc k).2.2.2 = false ∨ ((ej_y me).name = "<init>" ∧ cc = ej_own me ∧ (TT cc k).2.2.2 = true)) (ho : mC M o = cc) (hn : narrow (fty cc k) (ej_tr a0 bs vZ v) = ej_tr a0 bs vZ v) (hfit : fits (fty cc k) (ej_tr a0 bs vZ v) = true) (hz' : mZ M' = mZ M) (hs' : mS M' = mS M) (hC : mC M' = mC M) (hCM : 59 ≤ o → ej_CM M M')
    (hce : ej_ce cA a0 bs M' o = .inr (cc, (ej_fs a0 bs M o cc).set k (ej_tr a0 bs vZ v))) (hne : ∀ i, i ≠ o → ej_ce cA a0 bs M' i = ej_ce cA a0 bs M i) (kk : ej_G p l e R s m args below meth c Q D cA a0 bs vZ L xs me z0 s0 (pc + 3) ls st M') : ej_G p l e R s m args below meth c Q D cA a0 bs vZ L xs me z0 s0 pc ls (v :: .ref o :: st) M := by
  intro H locs la hW hS hL hz hs
  obtain ⟨hl, hc, hk⟩ := hasF_ok hw
  obtain ⟨h59, hlt⟩ := wp_id hW ho (Or.inl hc)
  have hg := w_get (cA := cA) (a0 := a0) (bs := bs) h59 hlt
  rw [ce_obj ho hc] at hg
  have hts := C.2.2.2.2.1
  have hK := C.2.2.2.2.2.1.1
  have hown := C.2.2.2.1
  have hap := va_apart (own := ej_cn (ej_own me)) hts (lay_in hc) (fty cc) (fun k hk => fty_ok cc hc k hk) (fun a ha b hb => fnm_ok cc hc a ha b hb) hK (vw_at hc)
  obtain ⟨r, h1, cell, q1, q2, q3, q4⟩ := hW.1 _ _ hg
  have hr : r = (ej_cn cc, TT cc, NN cc) := Option.some.inj (h1.symm.trans (vw_at hc))
  subst hr
  obtain ⟨hSl, hfc, kC, hkC, hkind⟩ := hK.1 cc _ (vw_at hc)
  obtain ⟨cf, kf, fi, f, hi, hsl⟩ := hSl k hk
  have hst := (u_facts hfc hkC (u_lays hts (lay_in hc) hk) hi).1
  have hsame : s.fieldFound? (ej_cn cc) (TT cc k).2.1 (TT cc k).2.2.1 = some (cf, kf, fi, f) := by rw [← fow_ok cc hc k hk]; exact hi
  have fin : ∀ H' : Heap, H'[ej_ad a0 bs o]? = some (cell.setSlot f.slot (ej_tr a0 bs vZ v)) → H'.size = H.size → (∀ q, q ≠ ej_ad a0 bs o → H'[q]? = H[q]?) → W p l e R s m args below meth c H' (locs ++ [⟨ej_ad a0 bs o, f.slot⟩]) (mZ M - z0) (mS M - s0) Q (F0 m (pc + 3) la (st.map (ej_tr a0 bs vZ))) := by
    intro H' e1 e2 e3
    have e1' := e1
    rw [hsl] at e1'
    have hat : va_at D ej_vw (ej_ad a0 bs o, .inr (cc, (ej_fs a0 bs M o cc).set k (ej_tr a0 bs vZ v))) H' := ⟨_, vw_at hc, t_OB.to (V := updV (vp_V (ej_fs a0 bs M o cc)) k (ej_tr a0 bs vZ v)) ⟨_, e1', q2, q3, t_set q4 hap hk _⟩ (fun j _ => vp_updV_set (by simp [ej_fs]; exact hk) _ j)⟩
    have hww : ej_w cA a0 bs M' = (ej_w cA a0 bs M).set (o - 59) (ej_ad a0 bs o, .inr (cc, (ej_fs a0 bs M o cc).set k (ej_tr a0 bs vZ v))) := by rw [w_upd hz' h59 hlt hne, hce]
    have hP' := hW.1.set w_D hg hat e3
    rw [← hww] at hP'
    have hh := kk H' (locs ++ [⟨ej_ad a0 bs o, f.slot⟩]) la (wp_next hW hz' hC (hCM h59) hP' e2) (hS.put e2 e3 (w_ad h59)) hL (by rw [hz']; exact hz) (by rw [hs']; exact hs)
    rwa [hz', hs'] at hh
  rcases hfin with hf | ⟨hf1, hf2, hf3⟩
  · have hlay := hts _ (lay_in hc _ (u_in_lay hk))
    unfold u_lay at hlay
    rw [if_neg (by rw [hf]; decide)] at hlay
    have h6 := u_store hfc hkC hkind hlay hi (fty_ok cc hc k hk) hn hfit
    exact W.putK C.1 C.2.1 (f := f) ⟨hown, hts _ hl, ⟨_, _, _, hsame⟩, hst⟩ (by rw [q2]; exact h6) q1 q3 (by rw [hsl]; exact k2_hasslot (q4 k hk)) rfl rfl hd fin
  · have hlay := hts _ (lay_in hc _ (u_in_lay hk))
    unfold u_lay at hlay
    rw [if_pos hf3] at hlay
    have hcf : m.cls = cf := by
      obtain ⟨_, _, c', _, _, _, -, -, hf', -, -, -, hown2, -⟩ := Cond.laysFinal_spec hlay
      have e1 : c' = cf := by have := hi.symm.trans hf'; simp at this; exact this.1.symm
      rw [fow_ok cc hc k hk, hf2] at hown2
      rw [← e1]; exact Option.some.inj (hown.symm.trans hown2)
    have h6 := u_fits hfc hkC hkind (Or.inr hlay) hi (fty_ok cc hc k hk) hn hfit
    exact W.putFinK C.1 C.2.1 hown (hts _ hl) hsame hst hcf (C.2.2.2.2.2.2.2 hf1) (by rw [q2]; exact h6) q1 q3 (by rw [hsl]; exact k2_hasslot (q4 k hk)) rfl rfl hd fin
-- my memory after a write
theorem up2_ne {α : Type} {f : Nat → Nat → α} {o k i : Nat} {v : α} (h : i ≠ o) : up2 f o k v i = f i := by simp [up2, va_up, h]
theorem up2_eq {α : Type} {f : Nat → Nat → α} {o k : Nat} {v : α} : up2 f o k v o = va_up (f o) k v := by simp [up2, va_up]
theorem fs_set {M' : ej_Mem} {o cc k : Nat} {v : Value} (hk : k < NN cc) (h1 : ej_fv a0 bs M' o cc k = v) (h2 : ∀ j, j ≠ k → ej_fv a0 bs M' o cc j = ej_fv a0 bs M o cc j) : ej_fs a0 bs M' o cc = (ej_fs a0 bs M o cc).set k v := by
  apply List.ext_getElem?
  intro j
  have hl : (ej_fs a0 bs M o cc).length = NN cc := by simp [ej_fs]
  by_cases hj : k = j
  · subst hj
    rw [List.getElem?_set_self (by rw [hl]; exact hk), fs_get hk, h1]
  · rw [List.getElem?_set_ne hj]
    by_cases hlt : j < NN cc
    · rw [fs_get hlt, fs_get hlt, h2 j (fun q => hj q.symm)]
    · rw [List.getElem?_eq_none (by simp [ej_fs]; omega), List.getElem?_eq_none (by rw [hl]; omega)]
theorem ce_same {M' : ej_Mem} {i : Nat} (h1 : mC M' i = mC M i) (h2 : mN M' i = mN M i) (h3 : mI M' i = mI M i) (h4 : mL M' i = mL M i) (h5 : mR M' i = mR M i) (h6 : aI M' i = aI M i) (h7 : aR M' i = aR M i) : ej_ce cA a0 bs M' i = ej_ce cA a0 bs M i := by
  unfold ej_ce ej_fs ej_fv
  rw [h1, h2, h3, h4, h5, h6, h7]
theorem sd_putI (C : ej_Cx p s m args meth c D cA a0 bs vZ L xs me) {ix cc k o : Nat} {v : Int32} (hd : decode (ej_b me) pc = .ok (.putfield ix, 3)) (hw : hasF (ej_own me) ix cc k = true) (hfin : (TT cc k).2.2.2 = false ∨ ((ej_y me).name = "<init>" ∧ cc = ej_own me ∧ (TT cc k).2.2.2 = true)) (hf : fcd cc k = 0 ∨ (fcd cc k = 3 ∧ (v = 0 ∨ v = 1))) (ho : mC M o = cc) (kk : ej_G p l e R s m args below meth c Q D cA a0 bs vZ L xs me z0 s0 (pc + 3) ls st (setI M o k v)) : ej_G p l e R s m args below meth c Q D cA a0 bs vZ L xs me z0 s0 pc ls (.int v :: .ref o :: st) M := by
  obtain ⟨-, hc, hk⟩ := hasF_ok hw
  have hty : narrow (fty cc k) (.int v) = .int v ∧ fits (fty cc k) (.int v) = true := by
    rcases fcd_ok cc hc k hk with ⟨h1, h2⟩ | ⟨h1, h2⟩ | ⟨h1, h2⟩ | ⟨h1, h2⟩
    · rw [h2]; exact ⟨rfl, rfl⟩
    · rcases hf with h | ⟨h, -⟩ <;> omega
    · rcases hf with h | ⟨-, h⟩
      · omega
      · rw [h2]; rcases h with rfl | rfl <;> exact ⟨rfl, rfl⟩
    · rcases hf with h | ⟨h, -⟩ <;> omega
  have hne : ∀ i, i ≠ o → ej_ce cA a0 bs (setI M o k v) i = ej_ce cA a0 bs M i := fun i hi => ce_same rfl rfl (up2_ne hi) rfl rfl rfl rfl
  refine sd_put (v := .int v) (M' := setI M o k v) C hd hw hfin ho hty.1 hty.2 rfl rfl rfl (fun h59 => cm_of h59 fun i hi => ⟨rfl, rfl, up2_ne hi, rfl, rfl⟩) ?_ hne kk
  · rw [ce_obj (M := setI M o k v) ho hc]
    congr 2
    refine fs_set hk ?_ (fun j hj => ?_)
    · unfold ej_fv
      have : mI (setI M o k v) o k = v := by show up2 _ o k v o k = v; simp [up2, va_up]
      rcases hf with h | ⟨h, -⟩ <;> rw [h, this] <;> rfl
    · unfold ej_fv
      have : mI (setI M o k v) o j = mI M o j := by show up2 _ o k v o j = _; simp [up2, va_up, hj]; rfl
      rw [this]; rfl
theorem sd_putL (C : ej_Cx p s m args meth c D cA a0 bs vZ L xs me) {ix cc k o : Nat} {v : Int64} (hd : decode (ej_b me) pc = .ok (.putfield ix, 3)) (hw : hasF (ej_own me) ix cc k = true) (hfin : (TT cc k).2.2.2 = false ∨ ((ej_y me).name = "<init>" ∧ cc = ej_own me ∧ (TT cc k).2.2.2 = true)) (hf : fcd cc k = 1) (ho : mC M o = cc) (kk : ej_G p l e R s m args below meth c Q D cA a0 bs vZ L xs me z0 s0 (pc + 3) ls st (setL M o k v)) : ej_G p l e R s m args below meth c Q D cA a0 bs vZ L xs me z0 s0 pc ls (.long v :: .ref o :: st) M := by
  obtain ⟨-, hc, hk⟩ := hasF_ok hw
  have hty : narrow (fty cc k) (.long v) = .long v ∧ fits (fty cc k) (.long v) = true := by
    rcases fcd_ok cc hc k hk with ⟨h1, h2⟩ | ⟨h1, h2⟩ | ⟨h1, h2⟩ | ⟨h1, h2⟩
    · omega
    · rw [h2]; exact ⟨rfl, rfl⟩
    · omega
    · omega
  have hne : ∀ i, i ≠ o → ej_ce cA a0 bs (setL M o k v) i = ej_ce cA a0 bs M i := fun i hi => ce_same rfl rfl rfl (up2_ne hi) rfl rfl rfl
  refine sd_put (v := .long v) (M' := setL M o k v) C hd hw hfin ho hty.1 hty.2 rfl rfl rfl (fun _ i hi => ⟨rfl, rfl, rfl, rfl, rfl⟩) ?_ hne kk
  rw [ce_obj (M := setL M o k v) ho hc]
  congr 2
  refine fs_set hk ?_ (fun j hj => ?_)
  · unfold ej_fv
    have : mL (setL M o k v) o k = v := by show up2 _ o k v o k = v; simp [up2, va_up]
    rw [hf, this]; rfl
  · unfold ej_fv
    have : mL (setL M o k v) o j = mL M o j := by show up2 _ o k v o j = _; simp [up2, va_up, hj]; rfl
    rw [this]; rfl
theorem sd_putR (C : ej_Cx p s m args meth c D cA a0 bs vZ L xs me) {ix cc k o : Nat} {v : Option Nat} (hd : decode (ej_b me) pc = .ok (.putfield ix, 3)) (hw : hasF (ej_own me) ix cc k = true) (hfin : (TT cc k).2.2.2 = false ∨ ((ej_y me).name = "<init>" ∧ cc = ej_own me ∧ (TT cc k).2.2.2 = true)) (hf : fcd cc k = 2) (ho : mC M o = cc) (kk : ej_G p l e R s m args below meth c Q D cA a0 bs vZ L xs me z0 s0 (pc + 3) ls st (setR M o k v)) : ej_G p l e R s m args below meth c Q D cA a0 bs vZ L xs me z0 s0 pc ls (va_rf v :: .ref o :: st) M := by
  obtain ⟨-, hc, hk⟩ := hasF_ok hw
  have hty : narrow (fty cc k) (va_rf (v.map (ej_ad a0 bs))) = va_rf (v.map (ej_ad a0 bs)) ∧ fits (fty cc k) (va_rf (v.map (ej_ad a0 bs))) = true := by
    rcases fcd_ok cc hc k hk with ⟨h1, h2⟩ | ⟨h1, h2⟩ | ⟨h1, h2⟩ | ⟨h1, h2⟩
    · omega
    · omega
    · omega
    · cases hfy : fty cc k <;> rw [hfy] at h2 <;> first | (cases h2; done) | (cases v <;> exact ⟨rfl, rfl⟩)
  have hne : ∀ i, i ≠ o → ej_ce cA a0 bs (setR M o k v) i = ej_ce cA a0 bs M i := fun i hi => ce_same rfl rfl rfl rfl (up2_ne hi) rfl rfl
  refine sd_put (v := va_rf v) (M' := setR M o k v) C hd hw hfin ho (by rw [tr_rf]; exact hty.1) (by rw [tr_rf]; exact hty.2) rfl rfl rfl (fun h59 => cm_of h59 fun i hi => ⟨rfl, rfl, rfl, up2_ne hi, rfl⟩) ?_ hne kk
  rw [ce_obj (M := setR M o k v) ho hc, tr_rf]
  congr 2
  refine fs_set hk ?_ (fun j hj => ?_)
  · unfold ej_fv
    have : mR (setR M o k v) o k = v := by show up2 _ o k v o k = v; simp [up2, va_up]
    rw [hf, this]; rfl
  · unfold ej_fv
    have : mR (setR M o k v) o j = mR M o j := by show up2 _ o k v o j = _; simp [up2, va_up, hj]; rfl
    rw [this]; rfl
-- rows of numbers
theorem ce_arr {o k : Nat} (hc : mC M o = k) (h : 100 ≤ k ∧ k < 103) : ej_ce cA a0 bs M o = .inl (cA k, mN M o, .inl (aI M o)) := by
  have h1 : ¬ k < 10 := by omega
  simp [ej_ce, hc, h1, h.2]
theorem ce_arq {o k : Nat} (hc : mC M o = k) (h : 103 ≤ k) : ej_ce cA a0 bs M o = .inl (cA k, mN M o, .inr (.inr (.inr (.inr (fun j => (aR M o j).map (ej_ad a0 bs)))))) := by
  have h1 : ¬ k < 10 := by omega
  have h2 : ¬ k < 103 := by omega
  simp [ej_ce, hc, h1, h2]
theorem vp_of {j : Int32} {n : Nat} (h1 : ¬ j < 0) (h2 : j.toNatClampNeg < n) : vp_in j n := by
  rintro (h | h)
  · exact h1 h
  · omega
theorem sd_iaload (C : ej_Cx p s m args meth c D cA a0 bs vZ L xs me) {o : Nat} {j : Int32} (hd : decode (ej_b me) pc = .ok (.iaload, 1)) (ho : mC M o = 100) (h1 : ¬ j < 0) (h2 : j.toNatClampNeg < mN M o) (k : ej_G p l e R s m args below meth c Q D cA a0 bs vZ L xs me z0 s0 (pc + 1) ls (.int (aI M o j.toNatClampNeg) :: st) M) : ej_G p l e R s m args below meth c Q D cA a0 bs vZ L xs me z0 s0 pc ls (.int j :: .ref o :: st) M := by
  intro H locs la hW hS hL hz hs
  obtain ⟨h59, hlt⟩ := wp_id hW ho (Or.inr (by omega))
  have hg := w_get (cA := cA) (a0 := a0) (bs := bs) h59 hlt
  rw [ce_arr ho (by omega)] at hg
  exact va_iald C.1 C.2.1 C.2.2.2.2.2.1.1 hW.1 _ 0 hg rfl (vp_of h1 h2) hd (k H locs la hW hS hL hz hs)
theorem sd_baload1 (C : ej_Cx p s m args meth c D cA a0 bs vZ L xs me) {o : Nat} {j : Int32} (hd : decode (ej_b me) pc = .ok (.baload, 1)) (ho : mC M o = 101) (h1 : ¬ j < 0) (h2 : j.toNatClampNeg < mN M o) (k : ej_G p l e R s m args below meth c Q D cA a0 bs vZ L xs me z0 s0 (pc + 1) ls (.int (aI M o j.toNatClampNeg) :: st) M) : ej_G p l e R s m args below meth c Q D cA a0 bs vZ L xs me z0 s0 pc ls (.int j :: .ref o :: st) M := by
  intro H locs la hW hS hL hz hs
  obtain ⟨h59, hlt⟩ := wp_id hW ho (Or.inr (by omega))
  have hg := w_get (cA := cA) (a0 := a0) (bs := bs) h59 hlt
  rw [ce_arr ho (by omega)] at hg
  exact va_bald C.1 C.2.1 C.2.2.2.2.2.1.1 hW.1 _ 1 hg rfl (vp_of h1 h2) hd (k H locs la hW hS hL hz hs)
theorem sd_baload2 (C : ej_Cx p s m args meth c D cA a0 bs vZ L xs me) {o : Nat} {j : Int32} (hd : decode (ej_b me) pc = .ok (.baload, 1)) (ho : mC M o = 102) (h1 : ¬ j < 0) (h2 : j.toNatClampNeg < mN M o) (k : ej_G p l e R s m args below meth c Q D cA a0 bs vZ L xs me z0 s0 (pc + 1) ls (.int (aI M o j.toNatClampNeg) :: st) M) : ej_G p l e R s m args below meth c Q D cA a0 bs vZ L xs me z0 s0 pc ls (.int j :: .ref o :: st) M := by
  intro H locs la hW hS hL hz hs
  obtain ⟨h59, hlt⟩ := wp_id hW ho (Or.inr (by omega))
  have hg := w_get (cA := cA) (a0 := a0) (bs := bs) h59 hlt
  rw [ce_arr ho (by omega)] at hg
  exact va_zald C.1 C.2.1 C.2.2.2.2.2.1.1 hW.1 _ 2 hg rfl (vp_of h1 h2) hd (k H locs la hW hS hL hz hs)
theorem sd_aaload (C : ej_Cx p s m args meth c D cA a0 bs vZ L xs me) {o kd : Nat} {j : Int32} (hd : decode (ej_b me) pc = .ok (.aaload, 1)) (hkd : kd = 103 ∨ kd = 104) (ho : mC M o = kd) (h1 : ¬ j < 0) (h2 : j.toNatClampNeg < mN M o) (k : ej_G p l e R s m args below meth c Q D cA a0 bs vZ L xs me z0 s0 (pc + 1) ls (va_rf (aR M o j.toNatClampNeg) :: st) M) : ej_G p l e R s m args below meth c Q D cA a0 bs vZ L xs me z0 s0 pc ls (.int j :: .ref o :: st) M := by
  intro H locs la hW hS hL hz hs
  obtain ⟨h59, hlt⟩ := wp_id hW ho (Or.inr (by omega))
  have hg := w_get (cA := cA) (a0 := a0) (bs := bs) h59 hlt
  rw [ce_arq ho (by omega)] at hg
  have hk := k H locs la hW hS hL hz hs
  rw [List.map_cons, tr_rf] at hk
  rcases hkd with rfl | rfl
  · exact va_aldq (C := "FeignedSuit$Writ") C.1 C.2.1 C.2.2.2.2.2.1.1 hW.1 _ 3 hg rfl (vp_of h1 h2) hd hk
  · exact va_aldq (C := "FeignedSuit$Land") C.1 C.2.1 C.2.2.2.2.2.1.1 hW.1 _ 4 hg rfl (vp_of h1 h2) hd hk
theorem sd_alen (C : ej_Cx p s m args meth c D cA a0 bs vZ L xs me) {o : Nat} (hd : decode (ej_b me) pc = .ok (.arraylength, 1)) (ho : 100 ≤ mC M o ∧ mC M o ≤ 104) (k : ej_G p l e R s m args below meth c Q D cA a0 bs vZ L xs me z0 s0 (pc + 1) ls (.int (Int32.ofNat (mN M o)) :: st) M) : ej_G p l e R s m args below meth c Q D cA a0 bs vZ L xs me z0 s0 pc ls (.ref o :: st) M := by
  intro H locs la hW hS hL hz hs
  obtain ⟨h59, hlt⟩ := wp_id hW (o := o) rfl (Or.inr ho)
  have hg := w_get (cA := cA) (a0 := a0) (bs := bs) h59 hlt
  have hk := k H locs la hW hS hL hz hs
  have hK := C.2.2.2.2.2.1.1
  rcases (show mC M o = 100 ∨ mC M o = 101 ∨ mC M o = 102 ∨ mC M o = 103 ∨ mC M o = 104 by omega) with h | h | h | h | h
  · rw [ce_arr h (by omega)] at hg
    exact va_alen C.1 C.2.1 hK hW.1 _ 0 hg rfl rfl hd hk
  · rw [ce_arr h (by omega)] at hg
    exact va_alen C.1 C.2.1 hK hW.1 _ 1 hg rfl rfl hd hk
  · rw [ce_arr h (by omega)] at hg
    exact va_alen C.1 C.2.1 hK hW.1 _ 2 hg rfl rfl hd hk
  · rw [ce_arq h (by omega)] at hg
    exact va_alen C.1 C.2.1 hK hW.1 _ 3 hg rfl rfl hd hk
  · rw [ce_arq h (by omega)] at hg
    exact va_alen C.1 C.2.1 hK hW.1 _ 4 hg rfl rfl hd hk
/-- behind a write to a row of numbers -/
theorem na_arr {M' : ej_Mem} {o kd : Nat} {H H1 : Heap} {locs : List Loc} {j : Nat} {la : Array Slot} (kk : ej_G p l e R s m args below meth c Q D cA a0 bs vZ L xs me z0 s0 pc ls st M') (hkd : 100 ≤ kd ∧ kd < 103) (ho : mC M o = kd) (h59 : 59 ≤ o) (hlt : o < mZ M) (hz' : mZ M' = mZ M) (hs' : mS M' = mS M) (hC : mC M' = mC M) (hN : mN M' o = mN M o) (hCM : ej_CM M M') (hne : ∀ i, i ≠ o → ej_ce cA a0 bs M' i = ej_ce cA a0 bs M i)
    (hW : ej_WP D cA a0 bs L xs M H) (hS : va_S (ej_A bs) s.heap H locs) (hL : ej_Lc a0 bs vZ (ej_mx me) la ls) (hz : z0 ≤ mZ M) (hs : s0 ≤ mS M)
    (e1 : H1[ej_ad a0 bs o]? = some (vp_cell (cA kd) (mN M o, .inl (aI M' o)))) (e2 : H1.size = H.size) (e3 : ∀ q, q ≠ ej_ad a0 bs o → H1[q]? = H[q]?) : W p l e R s m args below meth c H1 (locs ++ [⟨ej_ad a0 bs o, j⟩]) (mZ M - z0) (mS M - s0) Q (F0 m pc la (st.map (ej_tr a0 bs vZ))) := by
  have hg := w_get (cA := cA) (a0 := a0) (bs := bs) h59 hlt
  have hce : ej_ce cA a0 bs M' o = .inl (cA kd, mN M o, .inl (aI M' o)) := by rw [ce_arr (M := M') (k := kd) (by rw [hC]; exact ho) hkd, hN]
  have hP' := hW.1.set w_D hg (e := .inl (cA kd, mN M o, .inl (aI M' o))) e1 e3
  rw [← hce, ← w_upd hz' h59 hlt hne] at hP'
  have hh := kk H1 (locs ++ [⟨ej_ad a0 bs o, j⟩]) la (wp_next hW hz' hC hCM hP' e2) (hS.put e2 e3 (w_ad h59)) hL (by rw [hz']; exact hz) (by rw [hs']; exact hs)
  rwa [hz', hs'] at hh
theorem aI_setA {o j : Nat} {x : Int32} : aI (setA M o j x) o = va_up (aI M o) j x := up2_eq
theorem setA_ne {o j i : Nat} {x : Int32} (hi : i ≠ o) : ej_ce cA a0 bs (setA M o j x) i = ej_ce cA a0 bs M i := ce_same rfl rfl rfl rfl rfl (up2_ne hi) rfl
theorem setA_cm {o j : Nat} {x : Int32} (h59 : 59 ≤ o) : ej_CM M (setA M o j x) := cm_of h59 fun _ hi => ⟨rfl, rfl, rfl, rfl, up2_ne hi⟩
theorem cell_up (k : ClassId) (n : Nat) (f : Nat → Int32) (j : Nat) (x : Int32) : (vp_cell k (n, .inl f)).setSlot j (.int x) = vp_cell k (n, .inl (va_up f j x)) := by
  rw [vp_cell_i, vp_cell_i, arrV_store]
  congr 1
  funext q
  by_cases hq : q = j
  · subst hq
    simp [updV, va_up]
  · simp [updV, va_up, hq]
theorem sd_iastore (C : ej_Cx p s m args meth c D cA a0 bs vZ L xs me) {o : Nat} {j x : Int32} (hd : decode (ej_b me) pc = .ok (.iastore, 1)) (ho : mC M o = 100) (h1 : ¬ j < 0) (h2 : j.toNatClampNeg < mN M o) (k : ej_G p l e R s m args below meth c Q D cA a0 bs vZ L xs me z0 s0 (pc + 1) ls st (setA M o j.toNatClampNeg x)) : ej_G p l e R s m args below meth c Q D cA a0 bs vZ L xs me z0 s0 pc ls (.int x :: .int j :: .ref o :: st) M := by
  intro H locs la hW hS hL hz hs
  obtain ⟨h59, hlt⟩ := wp_id hW ho (Or.inr (by omega))
  have hg := w_get (cA := cA) (a0 := a0) (bs := bs) h59 hlt
  rw [ce_arr ho (by omega)] at hg
  refine W.iast C.1 C.2.1 (hW.1 _ _ hg) ((C.2.2.2.2.2.1.1.2 0 _ rfl).1 (mN M o) (fun j => .int (aI M o j))) (fun q => by cases q) (by show ¬ (j < 0 ∨ (arrV _ _ _).slots.size ≤ _); rw [arrV_size]; exact vp_of h1 h2) rfl rfl hd fun H1 e1 e2 e3 => ?_
  refine na_arr k (kd := 100) (by omega) ho h59 hlt rfl rfl rfl rfl (setA_cm h59) (fun i hi => setA_ne hi) hW hS hL hz hs ?_ e2 e3
  rw [e1, aI_setA]
  exact congrArg some (cell_up _ _ _ _ _)
theorem sd_bastore1 (C : ej_Cx p s m args meth c D cA a0 bs vZ L xs me) {o : Nat} {j x : Int32} (hd : decode (ej_b me) pc = .ok (.bastore, 1)) (ho : mC M o = 101) (h1 : ¬ j < 0) (h2 : j.toNatClampNeg < mN M o) (k : ej_G p l e R s m args below meth c Q D cA a0 bs vZ L xs me z0 s0 (pc + 1) ls st (setA M o j.toNatClampNeg (vp_nar .byte x))) : ej_G p l e R s m args below meth c Q D cA a0 bs vZ L xs me z0 s0 pc ls (.int x :: .int j :: .ref o :: st) M := by
  intro H locs la hW hS hL hz hs
  obtain ⟨h59, hlt⟩ := wp_id hW ho (Or.inr (by omega))
  have hg := w_get (cA := cA) (a0 := a0) (bs := bs) h59 hlt
  rw [ce_arr ho (by omega)] at hg
  refine W.bast C.1 C.2.1 (hW.1 _ _ hg) ((C.2.2.2.2.2.1.1.2 1 _ rfl).1 (mN M o) (fun j => .int (aI M o j))) (fun q => by cases q) (by show ¬ (j < 0 ∨ (arrV _ _ _).slots.size ≤ _); rw [arrV_size]; exact vp_of h1 h2) rfl rfl hd fun H1 e1 e2 e3 => ?_
  refine na_arr k (kd := 101) (by omega) ho h59 hlt rfl rfl rfl rfl (setA_cm h59) (fun i hi => setA_ne hi) hW hS hL hz hs ?_ e2 e3
  rw [e1, aI_setA]
  exact congrArg some (cell_up _ _ _ _ _)
theorem sd_bastore2 (C : ej_Cx p s m args meth c D cA a0 bs vZ L xs me) {o : Nat} {j x : Int32} (hd : decode (ej_b me) pc = .ok (.bastore, 1)) (ho : mC M o = 102) (h1 : ¬ j < 0) (h2 : j.toNatClampNeg < mN M o) (k : ej_G p l e R s m args below meth c Q D cA a0 bs vZ L xs me z0 s0 (pc + 1) ls st (setA M o j.toNatClampNeg (vp_nar .boolean x))) : ej_G p l e R s m args below meth c Q D cA a0 bs vZ L xs me z0 s0 pc ls (.int x :: .int j :: .ref o :: st) M := by
  intro H locs la hW hS hL hz hs
  obtain ⟨h59, hlt⟩ := wp_id hW ho (Or.inr (by omega))
  have hg := w_get (cA := cA) (a0 := a0) (bs := bs) h59 hlt
  rw [ce_arr ho (by omega)] at hg
  refine W.zast C.1 C.2.1 (hW.1 _ _ hg) ((C.2.2.2.2.2.1.1.2 2 _ rfl).1 (mN M o) (fun j => .int (aI M o j))) (fun q => by cases q) (by show ¬ (j < 0 ∨ (arrV _ _ _).slots.size ≤ _); rw [arrV_size]; exact vp_of h1 h2) rfl rfl hd fun H1 e1 e2 e3 => ?_
  refine na_arr k (kd := 102) (by omega) ho h59 hlt rfl rfl rfl rfl (setA_cm h59) (fun i hi => setA_ne hi) hW hS hL hz hs ?_ e2 e3
  rw [e1, aI_setA]
  exact congrArg some (cell_up _ _ _ _ _)
-- rows of references
theorem setP_ne {o j i : Nat} {x : Option Nat} (hi : i ≠ o) : ej_ce cA a0 bs (setP M o j x) i = ej_ce cA a0 bs M i := ce_same rfl rfl rfl rfl rfl rfl (up2_ne hi)
theorem cell_upq (k : ClassId) (n : Nat) (f : Nat → Option Nat) (j : Nat) (x : Option Nat) : (vp_cell k (n, .inr (.inr (.inr (.inr f))))).setSlot j (va_rf x) = vp_cell k (n, .inr (.inr (.inr (.inr (va_up f j x))))) := by
  rw [vp_cell_q, vp_cell_q, arrV_store]
  congr 1
  funext q
  by_cases hq : q = j
  · subst hq
    simp [updV, va_up]
  · simp [updV, va_up, hq]
theorem na_arq {o kd : Nat} {H H1 : Heap} {locs : List Loc} {j : Nat} {x : Option Nat} {la : Array Slot} (kk : ej_G p l e R s m args below meth c Q D cA a0 bs vZ L xs me z0 s0 pc ls st (setP M o j x)) (hkd : kd = 103 ∨ kd = 104) (ho : mC M o = kd) (h59 : 59 ≤ o) (hlt : o < mZ M)
    (hW : ej_WP D cA a0 bs L xs M H) (hS : va_S (ej_A bs) s.heap H locs) (hL : ej_Lc a0 bs vZ (ej_mx me) la ls) (hz : z0 ≤ mZ M) (hs : s0 ≤ mS M)
    (e1 : H1[ej_ad a0 bs o]? = some ((vp_cell (cA kd) (mN M o, .inr (.inr (.inr (.inr (fun j => (aR M o j).map (ej_ad a0 bs))))))).setSlot j (va_rf (x.map (ej_ad a0 bs))))) (e2 : H1.size = H.size) (e3 : ∀ q, q ≠ ej_ad a0 bs o → H1[q]? = H[q]?) : W p l e R s m args below meth c H1 (locs ++ [⟨ej_ad a0 bs o, j⟩]) (mZ M - z0) (mS M - s0) Q (F0 m pc la (st.map (ej_tr a0 bs vZ))) := by
  have hg := w_get (cA := cA) (a0 := a0) (bs := bs) h59 hlt
  have hce : ej_ce cA a0 bs (setP M o j x) o = .inl (cA kd, mN M o, .inr (.inr (.inr (.inr (va_up (fun j => (aR M o j).map (ej_ad a0 bs)) j (x.map (ej_ad a0 bs))))))) := by
    have hf : (fun q => (aR (setP M o j x) o q).map (ej_ad a0 bs)) = va_up (fun j => (aR M o j).map (ej_ad a0 bs)) j (x.map (ej_ad a0 bs)) := by
      funext q
      show (up2 _ o j x o q).map _ = _
      rw [up2_eq]
      by_cases hq : q = j
      · subst hq; simp [va_up]
      · simp [va_up, hq]; rfl
    rw [ce_arq (M := setP M o j x) (k := kd) ho (by omega), hf]; rfl
  rw [cell_upq] at e1
  have hP' := hW.1.set w_D hg (e := .inl (cA kd, mN M o, .inr (.inr (.inr (.inr (va_up (fun j => (aR M o j).map (ej_ad a0 bs)) j (x.map (ej_ad a0 bs)))))))) e1 e3
  rw [← hce, ← w_upd (M := M) (M' := setP M o j x) rfl h59 hlt (fun i hi => setP_ne hi)] at hP'
  exact kk H1 (locs ++ [⟨ej_ad a0 bs o, j⟩]) la (wp_next hW rfl rfl (fun i _ => ⟨rfl, rfl, rfl, rfl, rfl⟩) hP' e2) (hS.put e2 e3 (w_ad h59)) hL hz hs
theorem el_cn {kd : Nat} (hkd : kd = 103 ∨ kd = 104) : ej_el kd < 10 ∧ (ej_tys cA)[kd - 100]? = some (cA kd, .object (ej_cn (ej_el kd))) := by
  rcases hkd with rfl | rfl
  · exact ⟨by decide, rfl⟩
  · exact ⟨by decide, rfl⟩
theorem sd_aastore (C : ej_Cx p s m args meth c D cA a0 bs vZ L xs me) {o kd : Nat} {j : Int32} {x : Option Nat} (hd : decode (ej_b me) pc = .ok (.aastore, 1)) (hkd : kd = 103 ∨ kd = 104) (ho : mC M o = kd) (h1 : ¬ j < 0) (h2 : j.toNatClampNeg < mN M o) (hx : ∀ v, x = some v → mC M v = ej_el kd) (k : ej_G p l e R s m args below meth c Q D cA a0 bs vZ L xs me z0 s0 (pc + 1) ls st (setP M o j.toNatClampNeg x)) : ej_G p l e R s m args below meth c Q D cA a0 bs vZ L xs me z0 s0 pc ls (va_rf x :: .int j :: .ref o :: st) M := by
  intro H locs la hW hS hL hz hs
  obtain ⟨h59, hlt⟩ := wp_id hW ho (Or.inr (by omega))
  have hg := w_get (cA := cA) (a0 := a0) (bs := bs) h59 hlt
  rw [ce_arq ho (by omega)] at hg
  have hK := C.2.2.2.2.2.1.1
  obtain ⟨hel, hty⟩ := el_cn (cA := cA) hkd
  cases x with
  | none =>
    refine va_WaastN (C := ej_cn (ej_el kd)) C.1 C.2.1 (hW.1 _ _ hg) ((hK.2 _ _ hty).1 (mN M o) (fun j => va_rf ((aR M o j).map (ej_ad a0 bs)))) (fun h => by cases h) (by show ¬ (j < 0 ∨ (arrV _ _ _).slots.size ≤ _); rw [arrV_size]; exact vp_of h1 h2) rfl rfl hd fun H1 e1 e2 e3 => ?_
    exact na_arq k hkd ho h59 hlt hW hS hL hz hs e1 e2 e3
  | some v =>
    have hv := hx v rfl
    obtain ⟨v59, vlt⟩ := wp_id hW hv (Or.inl hel)
    have hgv := w_get (cA := cA) (a0 := a0) (bs := bs) v59 vlt
    rw [ce_obj hv hel] at hgv
    obtain ⟨r', hr', cellV, g1, g2, g3, -⟩ := hW.1 _ _ hgv
    have hcls := (hK.1 _ _ (vw_at hel)).2
    obtain ⟨kA, comp, k1, k2, k3, -⟩ := (hK.2 _ _ hty).2
    have hcomp : comp = D.1 (ej_el kd) := Option.some.inj (k3.symm.trans hcls.1)
    subst hcomp
    obtain ⟨kC, hkC, -⟩ := hcls.2
    refine W.aast C.1 C.2.1 (hW.1 _ _ hg) (fun q h => by cases h) (fun h => by cases h) k1 k2 rfl hkC ⟨h1, by show _ < (arrV _ _ _).slots.size; rw [arrV_size]; exact h2⟩ g1 (fun q h => by rw [g3] at h; cases h) (by rw [g2]; exact hkC) (by rw [g2]; exact va_assign hcls) rfl rfl hd fun H1 e1 e2 e3 => ?_
    exact na_arq k hkd ho h59 hlt hW hS hL hz hs e1 e2 e3
-- making
theorem new_ne {kd n sl i : Nat} (hi : i < mZ M) : ej_ce cA a0 bs (newM M kd n sl) i = ej_ce cA a0 bs M i := by
  have h : i ≠ mZ M := by omega
  exact ce_same (by show va_up _ _ _ i = _; simp [va_up, h]; rfl) (by show va_up _ _ _ i = _; simp [va_up, h]; rfl) (by show va_up _ _ _ i = _; simp [va_up, h]; rfl) (by show va_up _ _ _ i = _; simp [va_up, h]; rfl) (by show va_up _ _ _ i = _; simp [va_up, h]; rfl) (by show va_up _ _ _ i = _; simp [va_up, h]; rfl) (by show va_up _ _ _ i = _; simp [va_up, h]; rfl)
/-- behind a making: M' has one cell more -/
theorem na_new {M' : ej_Mem} {H H1 : Heap} {locs : List Loc} {la : Array Slot} {sl : Nat} {e1 : va_E} (kk : ej_G p l e R s m args below meth c Q D cA a0 bs vZ L xs me z0 s0 pc ls (.ref (mZ M) :: st) M') (hz' : mZ M' = mZ M + 1) (hs' : mS M' = mS M + sl) (hC : ∀ i, i ≠ mZ M → mC M' i = mC M i) (hCz : mC M' (mZ M) < 10 ∨ (100 ≤ mC M' (mZ M) ∧ mC M' (mZ M) ≤ 104)) (hCM : 59 ≤ mZ M → ej_CM M M') (hne : ∀ i, i < mZ M → ej_ce cA a0 bs M' i = ej_ce cA a0 bs M i) (hce : ej_ce cA a0 bs M' (mZ M) = e1)
    (hW : ej_WP D cA a0 bs L xs M H) (hS : va_S (ej_A bs) s.heap H locs) (hL : ej_Lc a0 bs vZ (ej_mx me) la ls) (hz : z0 ≤ mZ M) (hs : s0 ≤ mS M)
    (hat : va_at D ej_vw (H.size, e1) H1) (z1 : H1.size = H.size + 1) (o1 : ∀ q, q < H.size → H1[q]? = H[q]?) : W p l e R s m args below meth c H1 locs (mZ M - z0 + 1) (mS M - s0 + sl) Q (F0 m pc la (.ref H.size :: st.map (ej_tr a0 bs vZ))) := by
  obtain ⟨w1, w2, w3, w4, w5, w6⟩ := id hW
  have hk : ∀ (k : Nat) (x : Nat × va_E), (ej_w cA a0 bs M)[k]? = some x → H1[x.1]? = H[x.1]? := fun k x hx => o1 x.1 ((w1 k x hx).lt)
  have hP : va_P D ej_vw (ej_w cA a0 bs M') H1 := by
    rw [w_push hz' w3 hne, hce, ← w2]
    refine (w1.kept hk).app (fun k x hx => ?_)
    have hlt : k < 1 := (List.getElem?_eq_some_iff.mp hx).1
    rw [show k = 0 by omega] at hx
    cases hx
    exact hat
  have had : ej_ad a0 bs (mZ M) = H.size := by
    have : ¬ mZ M < 59 := by omega
    simp [ej_ad, this, w2]
  have hWP : ej_WP D cA a0 bs L xs M' H1 := by
    refine ⟨hP, by rw [z1, w2, hz']; omega, by omega, fun i hi => ?_, fun i hi => ?_, fun i hi hi2 => ?_⟩
    · obtain ⟨a1, a2, a3, a4, a5⟩ := w4 i hi
      obtain ⟨b1, b2, b3, b4, b5⟩ := hCM w3 i hi
      exact ⟨b1.trans a1, b2.trans a2, b3.trans a3, b4.trans a4, b5.trans a5⟩
    · rw [hC i (by omega)]; exact w5 i (by omega)
    · rcases Nat.lt_or_ge i (mZ M) with h | h
      · rw [hC i (by omega)]; exact w6 i hi h
      · have : i = mZ M := by omega
        subst this; exact hCz
  have hh := kk H1 locs la hWP ⟨Nat.le_trans hS.1 (by omega), fun x h1 h2 => (o1 x (Nat.lt_of_lt_of_le h1 hS.1)).trans (hS.2.1 x h1 h2), hS.2.2⟩ hL (by omega) (by omega)
  rw [hz', hs', show mZ M + 1 - z0 = mZ M - z0 + 1 by omega, show mS M + sl - s0 = mS M - s0 + sl by omega, List.map_cons, tr_ref, had] at hh
  exact hh
theorem newM_C {kd n sl i : Nat} (hi : i ≠ mZ M) : mC (newM M kd n sl) i = mC M i := by show va_up _ _ _ i = _; simp [va_up, hi]; rfl
theorem newM_Cz {kd n sl : Nat} : mC (newM M kd n sl) (mZ M) = kd := by show va_up _ _ _ _ = _; simp [va_up]
theorem newM_Nz {kd n sl : Nat} : mN (newM M kd n sl) (mZ M) = n := by show va_up _ _ _ _ = _; simp [va_up]
theorem newM_Iz {kd n sl : Nat} : mI (newM M kd n sl) (mZ M) = fun _ => 0 := by show va_up _ _ _ _ = _; simp [va_up]
theorem newM_Lz {kd n sl : Nat} : mL (newM M kd n sl) (mZ M) = fun _ => 0 := by show va_up _ _ _ _ = _; simp [va_up]
theorem newM_Rz {kd n sl : Nat} : mR (newM M kd n sl) (mZ M) = fun _ => none := by show va_up _ _ _ _ = _; simp [va_up]
theorem newM_Az {kd n sl : Nat} : aI (newM M kd n sl) (mZ M) = fun _ => 0 := by show va_up _ _ _ _ = _; simp [va_up]
theorem newM_Pz {kd n sl : Nat} : aR (newM M kd n sl) (mZ M) = fun _ => none := by show va_up _ _ _ _ = _; simp [va_up]
theorem newM_CM {kd n sl : Nat} (h : 59 ≤ mZ M) : ej_CM M (newM M kd n sl) := by
  intro i hi
  have hne : i ≠ mZ M := by omega
  refine ⟨?_, ?_, ?_, ?_, ?_⟩ <;> (show va_up _ _ _ i = _; simp [va_up, hne]; rfl)
theorem sd_new (C : ej_Cx p s m args meth c D cA a0 bs vZ L xs me) {ix cc : Nat} (hd : decode (ej_b me) pc = .ok (.new ix, 3)) (hw : hasC (ej_own me) ix cc = true) (hr : mZ M + 1 - z0 ≤ R.cells ∧ mS M + NN cc - s0 ≤ R.slots) (k : ej_G p l e R s m args below meth c Q D cA a0 bs vZ L xs me z0 s0 (pc + 3) ls (.ref (mZ M) :: st) (newM M cc 0 (NN cc))) : ej_G p l e R s m args below meth c Q D cA a0 bs vZ L xs me z0 s0 pc ls st M := by
  intro H locs la hW hS hL hz hs
  obtain ⟨hl, hc⟩ := hasC_ok hw
  have hts := C.2.2.2.2.1
  have hKn := C.2.2.2.2.2.1.1.1 cc _ (vw_at hc)
  refine W.newcK C.1 C.2.1 C.2.2.2.1 (hts _ hl) (hts _ (inst_in hc)) (hts _ (init_in (by omega))) rfl hd (by omega) (by omega) hKn.2.1 rfl fun H1 kC hkC e1 z1 o1 => ?_
  refine na_new k rfl rfl (fun i hi => newM_C hi) (by rw [newM_Cz]; exact Or.inl hc) newM_CM (fun i hi => new_ne hi) (ce_obj newM_Cz hc) hW hS hL hz hs ?_ z1 o1
  refine ⟨_, vw_at hc, (u_born (fty cc) hts (lay_in hc) hKn hkC e1 (fun k hk => fty_ok cc hc k hk)).to fun j hj => ?_⟩
  show defaultValue (fty cc j) = vp_V (ej_fs a0 bs (newM M cc 0 (NN cc)) (mZ M) cc) j
  have hget : vp_V (ej_fs a0 bs (newM M cc 0 (NN cc)) (mZ M) cc) j = ej_fv a0 bs (newM M cc 0 (NN cc)) (mZ M) cc j := by
    simp [vp_V, fs_get hj]
  rw [hget]
  unfold ej_fv
  rw [newM_Iz, newM_Lz, newM_Rz]
  rcases fcd_ok cc hc j hj with ⟨h1, h2⟩ | ⟨h1, h2⟩ | ⟨h1, h2⟩ | ⟨h1, h2⟩
  · rw [h1, h2]; rfl
  · rw [h1, h2]; rfl
  · rw [h1, h2]; rfl
  · rw [h1]
    cases hfy : fty cc j <;> rw [hfy] at h2 <;> first | (cases h2; done) | rfl
theorem sd_newarr (C : ej_Cx p s m args meth c D cA a0 bs vZ L xs me) {ar : ArrayType} {kd : Nat} {n : Int32} (hd : decode (ej_b me) pc = .ok (.newarray ar, 2)) (hkd : (kd = 100 ∧ ar = .int) ∨ (kd = 101 ∧ ar = .byte) ∨ (kd = 102 ∧ ar = .boolean)) (hn : ¬ n < 0) (hN : n.toNatClampNeg ≤ 67108864) (hr : mZ M + 1 - z0 ≤ R.cells ∧ mS M + n.toNatClampNeg - s0 ≤ R.slots) (k : ej_G p l e R s m args below meth c Q D cA a0 bs vZ L xs me z0 s0 (pc + 2) ls (.ref (mZ M) :: st) (newM M kd n.toNatClampNeg n.toNatClampNeg)) : ej_G p l e R s m args below meth c Q D cA a0 bs vZ L xs me z0 s0 pc ls (.int n :: st) M := by
  intro H locs la hW hS hL hz hs
  have hts := C.2.2.2.2.1
  have hK := C.2.2.2.2.2.1.1
  have harr : (Cond.arrayClass (newarray.typeOf ar)).before args s = true := by
    rcases hkd with ⟨-, rfl⟩ | ⟨-, rfl⟩ | ⟨-, rfl⟩
    · exact hts _ arr_I
    · exact hts _ arr_B
    · exact hts _ arr_Z
  refine va_newaK C.1 C.2.1 harr rfl hd rfl hn rfl (by rcases hkd with ⟨-, rfl⟩ | ⟨-, rfl⟩ | ⟨-, rfl⟩ <;> (show _ * _ ≤ 536870912; simp [newarray.typeOf, componentBytes]; omega)) (by omega) (by omega) rfl fun H1 cA1 e1 z1 o1 hAr hNm => ?_
  have hcA : cA1 = cA kd := by
    rcases hkd with ⟨rfl, rfl⟩ | ⟨rfl, rfl⟩ | ⟨rfl, rfl⟩
    · exact Option.some.inj (hNm.symm.trans (hK.2 0 _ rfl).2)
    · exact Option.some.inj (hNm.symm.trans (hK.2 1 _ rfl).2)
    · exact Option.some.inj (hNm.symm.trans (hK.2 2 _ rfl).2)
  have hk3 : 100 ≤ kd ∧ kd < 103 := by omega
  refine na_new k rfl rfl (fun i hi => newM_C hi) (by rw [newM_Cz]; exact Or.inr (by omega)) newM_CM (fun i hi => new_ne hi) (ce_arr newM_Cz hk3) hW hS hL hz hs ?_ z1 o1
  show H1[H.size]? = some (vp_cell _ _)
  rw [e1, newM_Nz, newM_Az, hcA]
  rcases hkd with ⟨rfl, rfl⟩ | ⟨rfl, rfl⟩ | ⟨rfl, rfl⟩ <;> rfl
theorem sd_anewarr (C : ej_Cx p s m args meth c D cA a0 bs vZ L xs me) {ix kd : Nat} {n : Int32} (hd : decode (ej_b me) pc = .ok (.anewarray ix, 3)) (hkd : kd = 103 ∨ kd = 104) (hw : hasC (ej_own me) ix (ej_el kd) = true) (hn : ¬ n < 0) (hN : n.toNatClampNeg ≤ 67108864) (hr : mZ M + 1 - z0 ≤ R.cells ∧ mS M + n.toNatClampNeg - s0 ≤ R.slots) (k : ej_G p l e R s m args below meth c Q D cA a0 bs vZ L xs me z0 s0 (pc + 3) ls (.ref (mZ M) :: st) (newM M kd n.toNatClampNeg n.toNatClampNeg)) : ej_G p l e R s m args below meth c Q D cA a0 bs vZ L xs me z0 s0 pc ls (.int n :: st) M := by
  intro H locs la hW hS hL hz hs
  obtain ⟨hl, hc⟩ := hasC_ok hw
  have hts := C.2.2.2.2.1
  have hK := C.2.2.2.2.2.1.1
  obtain ⟨hel, hty⟩ := el_cn (cA := cA) hkd
  have hover : (Cond.arrayOver (.object (ej_cn (ej_el kd)))).before args s = true := by
    have hN := C.2.2.2.2.2.1.2.2.2.1.2.2.2.2
    rcases hkd with rfl | rfl
    · exact va_AO.use hN.1
    · exact va_AO.use hN.2
  refine W.anew C.1 C.2.1 C.2.2.2.1 (hts _ hl) hover rfl hd rfl hn (by omega) (by omega) (by omega) fun cA1 kA comp h1 h2 h3 h4 => ?_
  obtain ⟨kA', comp', k1, k2, k3, k4⟩ := (hK.2 _ _ hty).2
  have hcA : cA1 = cA kd := Option.some.inj (h1.symm.trans k4)
  refine na_new k rfl rfl (fun i hi => newM_C hi) (by rw [newM_Cz]; exact Or.inr (by omega)) newM_CM (fun i hi => new_ne hi) (ce_arq newM_Cz (by omega)) hW hS hL hz hs ?_ (by simp) (fun q hq => by rw [Array.getElem?_push, if_neg (Nat.ne_of_lt hq)])
  show (H.push _)[H.size]? = some (vp_cell _ _)
  rw [Array.getElem?_push_size, newM_Nz, newM_Pz, hcA]
  exact congrArg some (arrV_new _ _ .null)
-- what stood there before
theorem tr_c {o : Nat} (h : o < 59) : ej_ad a0 bs o = a0 o := by simp [ej_ad, h]
theorem sd_ialoadC (C : ej_Cx p s m args meth c D cA a0 bs vZ L xs me) {o : Nat} {j : Int32} (hd : decode (ej_b me) pc = .ok (.iaload, 1)) (ho : mC M o = 110) (h1 : ¬ j < 0) (h2 : j.toNatClampNeg < mN M o) (k : ej_G p l e R s m args below meth c Q D cA a0 bs vZ L xs me z0 s0 (pc + 1) ls (.int (aI M o j.toNatClampNeg) :: st) M) : ej_G p l e R s m args below meth c Q D cA a0 bs vZ L xs me z0 s0 pc ls (.int j :: .ref o :: st) M := by
  intro H locs la hW hS hL hz hs
  have h59 := wp_c hW ho (by omega)
  obtain ⟨c1, c2, c3, c4, c5⟩ := hW.2.2.2.1 o h59
  obtain ⟨cell, t1, t2, t3, t4, t5, t6, t7⟩ := (C.2.2.2.2.2.1.2.1 o h59).1 (by rw [← c1]; exact ho)
  have hk := k H locs la hW hS hL hz hs
  have hcell : H[ej_ad a0 bs o]? = some cell := by rw [tr_c h59, hS.2.1 _ (Array.getElem?_eq_some_iff.mp t1).1 t7]; exact t1
  exact W.iald (v := .int (aI M o j.toNatClampNeg)) C.1 C.2.1 hcell t2 t3 (by rw [c2] at h2; intro q; rcases q with q | q; exact h1 q; omega) (by rw [c5]; exact t6 _ (by rw [← c2]; exact h2)) rfl rfl hd hk
theorem sd_baloadC (C : ej_Cx p s m args meth c D cA a0 bs vZ L xs me) {o : Nat} {j : Int32} (hd : decode (ej_b me) pc = .ok (.baload, 1)) (ho : mC M o = 111) (h1 : ¬ j < 0) (h2 : j.toNatClampNeg < mN M o) (k : ej_G p l e R s m args below meth c Q D cA a0 bs vZ L xs me z0 s0 (pc + 1) ls (.int (aI M o j.toNatClampNeg) :: st) M) : ej_G p l e R s m args below meth c Q D cA a0 bs vZ L xs me z0 s0 pc ls (.int j :: .ref o :: st) M := by
  intro H locs la hW hS hL hz hs
  have h59 := wp_c hW ho (by omega)
  obtain ⟨c1, c2, c3, c4, c5⟩ := hW.2.2.2.1 o h59
  obtain ⟨cell, t1, t2, t3, t4, t5, t6, t7⟩ := (C.2.2.2.2.2.1.2.1 o h59).2.1 (by rw [← c1]; exact ho)
  have hk := k H locs la hW hS hL hz hs
  have hcell : H[ej_ad a0 bs o]? = some cell := by rw [tr_c h59, hS.2.1 _ (Array.getElem?_eq_some_iff.mp t1).1 t7]; exact t1
  exact W.bald (v := .int (aI M o j.toNatClampNeg)) C.1 C.2.1 hcell t2 t3 (by rw [c2] at h2; intro q; rcases q with q | q; exact h1 q; omega) (by rw [c5]; exact t6 _ (by rw [← c2]; exact h2)) rfl rfl hd hk
theorem sd_alenC (C : ej_Cx p s m args meth c D cA a0 bs vZ L xs me) {o : Nat} (hd : decode (ej_b me) pc = .ok (.arraylength, 1)) (ho : 110 ≤ mC M o ∧ mC M o ≤ 111) (k : ej_G p l e R s m args below meth c Q D cA a0 bs vZ L xs me z0 s0 (pc + 1) ls (.int (Int32.ofNat (mN M o)) :: st) M) : ej_G p l e R s m args below meth c Q D cA a0 bs vZ L xs me z0 s0 pc ls (.ref o :: st) M := by
  intro H locs la hW hS hL hz hs
  have h59 : o < 59 := wp_c hW (o := o) rfl (by omega)
  obtain ⟨c1, c2, c3, c4, c5⟩ := hW.2.2.2.1 o h59
  have hk := k H locs la hW hS hL hz hs
  rcases (show mC M o = 110 ∨ mC M o = 111 by omega) with h | h
  · obtain ⟨cell, t1, t2, t3, t4, t5, t6, t7⟩ := (C.2.2.2.2.2.1.2.1 o h59).1 (by rw [← c1]; exact h)
    have hcell : H[ej_ad a0 bs o]? = some cell := by rw [tr_c h59, hS.2.1 _ (Array.getElem?_eq_some_iff.mp t1).1 t7]; exact t1
    exact W.alen C.1 C.2.1 hcell t2 (by rw [c2]; exact t5) rfl rfl hd hk
  · obtain ⟨cell, t1, t2, t3, t4, t5, t6, t7⟩ := (C.2.2.2.2.2.1.2.1 o h59).2.1 (by rw [← c1]; exact h)
    have hcell : H[ej_ad a0 bs o]? = some cell := by rw [tr_c h59, hS.2.1 _ (Array.getElem?_eq_some_iff.mp t1).1 t7]; exact t1
    exact W.alen C.1 C.2.1 hcell t2 (by rw [c2]; exact t5) rfl rfl hd hk
theorem sd_getIC (C : ej_Cx p s m args meth c D cA a0 bs vZ L xs me) {o : Nat} (hd : decode (ej_b me) pc = .ok (.getfield 15, 3)) (hown : ej_own me = 10) (ho : mC M o = 10) (k : ej_G p l e R s m args below meth c Q D cA a0 bs vZ L xs me z0 s0 (pc + 3) ls (.int (mI M o 1) :: st) M) : ej_G p l e R s m args below meth c Q D cA a0 bs vZ L xs me z0 s0 pc ls (.ref o :: st) M := by
  intro H locs la hW hS hL hz hs
  have h59 := wp_c hW ho (by omega)
  obtain ⟨c1, c2, c3, c4, c5⟩ := hW.2.2.2.1 o h59
  obtain ⟨t1, t2, t3⟩ := (C.2.2.2.2.2.1.2.1 o h59).2.2 (by rw [← c1]; exact ho)
  have hk := k H locs la hW hS hL hz hs
  have hO := C.2.2.2.1
  rw [hown] at hO
  show W p l e R s m args below meth c H locs _ _ Q (F0 m pc la (.ref (ej_ad a0 bs o) :: st.map (ej_tr a0 bs vZ)))
  rw [tr_c h59]
  exact vk_getf (v := .int (mI M o 1)) C.1 C.2.1 (by rw [c3]; exact t2) hS hO (C.2.2.2.2.1 _ sl_cod) (fun _ h => h) hd hk
theorem sd_getRC (C : ej_Cx p s m args meth c D cA a0 bs vZ L xs me) {o q : Nat} (hd : decode (ej_b me) pc = .ok (.getfield 9, 3)) (hown : ej_own me = 10) (ho : mC M o = 10) (hq : mR M o 0 = some q) (k : ej_G p l e R s m args below meth c Q D cA a0 bs vZ L xs me z0 s0 (pc + 3) ls (.ref q :: st) M) : ej_G p l e R s m args below meth c Q D cA a0 bs vZ L xs me z0 s0 pc ls (.ref o :: st) M := by
  intro H locs la hW hS hL hz hs
  have h59 := wp_c hW ho (by omega)
  obtain ⟨c1, c2, c3, c4, c5⟩ := hW.2.2.2.1 o h59
  obtain ⟨t1, t2, v, t3, t4, t5⟩ := (C.2.2.2.2.2.1.2.1 o h59).2.2 (by rw [← c1]; exact ho)
  have hqv : q = v := by rw [c4, t3] at hq; exact (Option.some.inj hq).symm
  subst hqv
  have hk := k H locs la hW hS hL hz hs
  rw [List.map_cons, tr_ref, tr_c t4] at hk
  have hO := C.2.2.2.1
  rw [hown] at hO
  show W p l e R s m args below meth c H locs _ _ Q (F0 m pc la (.ref (ej_ad a0 bs o) :: st.map (ej_tr a0 bs vZ)))
  rw [tr_c h59]
  exact vk_getf C.1 C.2.1 t5 hS hO (C.2.2.2.2.1 _ sl_val) (fun _ h => h) hd hk
theorem sd_getsM (C : ej_Cx p s m args meth c D cA a0 bs vZ L xs me) {ix i : Nat} (hd : decode (ej_b me) pc = .ok (.getstatic ix, 3)) (hown : ej_own me = 3) (hi : (ix = 21 ∧ i = 1) ∨ (ix = 63 ∧ i = 2)) (k : ej_G p l e R s m args below meth c Q D cA a0 bs vZ L xs me z0 s0 (pc + 3) ls (.ref i :: st) M) : ej_G p l e R s m args below meth c Q D cA a0 bs vZ L xs me z0 s0 pc ls st M := by
  intro H locs la hW hS hL hz hs
  have hk := k H locs la hW hS hL hz hs
  have hO := C.2.2.2.1
  rw [hown] at hO
  have hN := C.2.2.2.2.2.1.2.2.2.1
  have hZ := C.2.2.2.2.2.1.2.2.2.2.1
  rw [List.map_cons, tr_ref, tr_c (show i < 59 by omega)] at hk
  rcases hi with ⟨rfl, rfl⟩ | ⟨rfl, rfl⟩
  · exact va_getsN (host := "FeignedSuit") C.1 C.2.1 hZ.1 hS hO (va_Nw.use rfl hN.2.1) (fun _ h => h) hd hk
  · exact va_getsN (host := "FeignedSuit") C.1 C.2.1 hZ.2.1 hS hO (va_Nw.use rfl hN.2.2.1) (fun _ h => h) hd hk
theorem sd_getsZ (C : ej_Cx p s m args meth c D cA a0 bs vZ L xs me) (hd : decode (ej_b me) pc = .ok (.getstatic 38, 3)) (hown : ej_own me = 10) (k : ej_G p l e R s m args below meth c Q D cA a0 bs vZ L xs me z0 s0 (pc + 3) ls (.int 1 :: st) M) : ej_G p l e R s m args below meth c Q D cA a0 bs vZ L xs me z0 s0 pc ls st M := by
  intro H locs la hW hS hL hz hs
  have hO := C.2.2.2.1
  rw [hown] at hO
  exact va_gets C.1 C.2.1 C.2.2.2.2.2.1.2.2.2.2.1.2.2.1 hS hO (C.2.2.2.2.1 _ sl_cmp) (fun _ h => h) hd (k H locs la hW hS hL hz hs)
theorem sd_getsT (C : ej_Cx p s m args meth c D cA a0 bs vZ L xs me) (hd : decode (ej_b me) pc = .ok (.getstatic 1053, 3)) (hown : ej_own me = 10) (k : ej_G p l e R s m args below meth c Q D cA a0 bs vZ L xs me z0 s0 (pc + 3) ls (.float 0 :: st) M) : ej_G p l e R s m args below meth c Q D cA a0 bs vZ L xs me z0 s0 pc ls st M := by
  intro H locs la hW hS hL hz hs
  have hO := C.2.2.2.1
  rw [hown] at hO
  exact va_gets C.1 C.2.1 C.2.2.2.2.2.1.2.2.2.2.1.2.2.2 hS hO (C.2.2.2.2.1 _ sl_fmt) (fun _ h => h) hd (k H locs la hW hS hL hz hs)
-- small calls
theorem cats_tr (hvz : vZ = .null ∨ ∃ t, vZ = .ref t) (r : List Value) : ((r.map (ej_tr a0 bs vZ)).map fun v => v.category).sum = ej_cats r := by
  unfold ej_cats
  rw [List.map_map]
  congr 1
  apply List.map_congr_left
  intro v _
  exact tr_cat hvz v
theorem sd_objinit (C : ej_Cx p s m args meth c D cA a0 bs vZ L xs me) {ix o : Nat} (hd : decode (ej_b me) pc = .ok (.invokespecial ix, 3)) (hw : hasO (ej_own me) ix = true) (hR : 1 ≤ R.frames ∧ 38 ≤ R.locals) (hcat : ej_cats st ≤ 8) (k : ej_G p l e R s m args below meth c Q D cA a0 bs vZ L xs me z0 s0 (pc + 3) ls st M) : ej_G p l e R s m args below meth c Q D cA a0 bs vZ L xs me z0 s0 pc ls (.ref o :: st) M := by
  intro H locs la hW hS hL hz hs
  have hts := C.2.2.2.2.1
  exact W.objInit C.1 C.2.1 C.2.2.2.1 (hts _ (hasO_ok hw)) (hts _ oi_inst) (hts _ oi_code) rfl (by rw [C.2.2.1]; exact hL.1) rfl hd hR.1 (by show 2 * 0 + _ + 12 ≤ _; rw [cats_tr C.2.2.2.2.2.1.2.2.2.2.2]; omega) (k H locs la hW hS hL hz hs)
theorem sd_min (C : ej_Cx p s m args meth c D cA a0 bs vZ L xs me) {ix : Nat} {x y : Int32} (hd : decode (ej_b me) pc = .ok (.invokestatic ix, 3)) (hw : hasX (ej_own me) ix = true) (hR : 1 ≤ R.frames ∧ 38 ≤ R.locals) (hcat : ej_cats st ≤ 8) (hr : mZ M - z0 ≤ R.cells ∧ mS M - s0 ≤ R.slots) (k : ej_G p l e R s m args below meth c Q D cA a0 bs vZ L xs me z0 s0 (pc + 3) ls (.int (if y < x then y else x) :: st) M) : ej_G p l e R s m args below meth c Q D cA a0 bs vZ L xs me z0 s0 pc ls (.int y :: .int x :: st) M := by
  intro H locs la hW hS hL hz hs
  have hts := C.2.2.2.2.1
  exact va_mmin C.1 C.2.1 (by rw [C.2.2.1]; exact hL.1.symm) C.2.2.2.1 (hts _ (hasX_ok hw)) (hts _ mn_sta) (hts _ mn_ini) (hts _ mn_cod) hR.1 (by rw [cats_tr C.2.2.2.2.2.1.2.2.2.2.2]; omega) hr.1 hr.2 hd (k H locs la hW hS hL hz hs)
theorem sd_cast (C : ej_Cx p s m args meth c D cA a0 bs vZ L xs me) {o : Nat} (hd : decode (ej_b me) pc = .ok (.checkcast 317, 3)) (hown : ej_own me = 16) (ho : mC M o = 100) (k : ej_G p l e R s m args below meth c Q D cA a0 bs vZ L xs me z0 s0 (pc + 3) ls (.ref o :: st) M) : ej_G p l e R s m args below meth c Q D cA a0 bs vZ L xs me z0 s0 pc ls (.ref o :: st) M := by
  intro H locs la hW hS hL hz hs
  obtain ⟨h59, hlt⟩ := wp_id hW ho (Or.inr (by omega))
  have hg := w_get (cA := cA) (a0 := a0) (bs := bs) h59 hlt
  rw [ce_arr ho (by omega)] at hg
  have hO := C.2.2.2.1
  rw [hown] at hO
  exact va_castA (nm := "[I") C.1 C.2.1 hO (C.2.2.2.2.1 _ cl_chk) hW.1 _ hg (C.2.2.2.2.2.1.1.2 0 _ rfl).2 hd (k H locs la hW hS hL hz hs)
-- copying
theorem cpy_ne {oa sp o dp n i : Nat} (hi : i ≠ o) : ej_ce cA a0 bs (cpyM M oa sp o dp n) i = ej_ce cA a0 bs M i := ce_same rfl rfl rfl rfl rfl (by show va_up _ _ _ i = _; simp [va_up, hi]; rfl) rfl
theorem cpy_aI {oa sp o dp n : Nat} : aI (cpyM M oa sp o dp n) o = va_cpy (aI M oa) (aI M o) sp dp n := by show va_up _ _ _ o = _; simp [va_up]; rfl
set_option maxHeartbeats 1000000 in
theorem sd_acopy (C : ej_Cx p s m args meth c D cA a0 bs vZ L xs me) {ix o0 o1 : Nat} {n dp sp : Int32} (hd : decode (ej_b me) pc = .ok (.invokestatic ix, 3)) (hw : hasA (ej_own me) ix = true) (hR : 1 ≤ R.frames ∧ 38 ≤ R.locals) (hcat : ej_cats st ≤ 8) (ho0 : mC M o0 = 100) (ho1 : mC M o1 = 100) (h1 : ¬ sp < 0) (h2 : ¬ dp < 0) (h3 : ¬ n < 0) (h4 : sp.toNatClampNeg + n.toNatClampNeg ≤ mN M o0) (h5 : dp.toNatClampNeg + n.toNatClampNeg ≤ mN M o1) (k : ej_G p l e R s m args below meth c Q D cA a0 bs vZ L xs me z0 s0 (pc + 3) ls st (cpyM M o0 sp.toNatClampNeg o1 dp.toNatClampNeg n.toNatClampNeg)) : ej_G p l e R s m args below meth c Q D cA a0 bs vZ L xs me z0 s0 pc ls (.int n :: .int dp :: .ref o1 :: .int sp :: .ref o0 :: st) M := by
  intro H locs la hW hS hL hz hs
  have hts := C.2.2.2.2.1
  have hK := C.2.2.2.2.2.1.1
  obtain ⟨p59, plt⟩ := wp_id hW ho0 (Or.inr (by omega))
  obtain ⟨q59, qlt⟩ := wp_id hW ho1 (Or.inr (by omega))
  have hg0 := w_get (cA := cA) (a0 := a0) (bs := bs) p59 plt
  rw [ce_arr ho0 (by omega)] at hg0
  have hg1 := w_get (cA := cA) (a0 := a0) (bs := bs) q59 qlt
  rw [ce_arr ho1 (by omega)] at hg1
  have nn : ∀ z : Int32, ¬ z < 0 → z.toInt = (z.toNatClampNeg : Int) := by
    intro z hz
    have hz0 : (0 : Int) ≤ z.toInt := by
      have := Int32.not_lt.mp hz
      simpa using Int32.le_iff_toInt_le.mp this
    show z.toInt = ((z.toInt.toNat : Nat) : Int)
    omega
  intro T hT X
  have hc0 : H[ej_ad a0 bs o0]? = some (vp_cell (cA 100) (mN M o0, .inl (aI M o0))) := hW.1 _ _ hg0
  have hc1 : H[ej_ad a0 bs o1]? = some (vp_cell (cA 100) (mN M o1, .inl (aI M o1))) := hW.1 _ _ hg1
  obtain ⟨-, k0, hk0, cm0, hkk0⟩ := (hK.2 0 _ rfl).1 (mN M o0) (fun j => .int (aI M o0 j))
  obtain ⟨-, k1, hk1, cm1, hkk1⟩ := (hK.2 0 _ rfl).1 (mN M o1) (fun j => .int (aI M o1 j))
  have hnw : nativeFrameWords "java/lang/System" "arraycopy" 5 + 11 ≤ 30 := by decide
  obtain ⟨vm', X', step⟩ := X.arraycopy C.1 C.2.2.2.1 (hts _ (hasA_ok hw)) (hts _ ac_nat) (hts _ ac_sta) (hts _ ac_ini) (src := ej_ad a0 bs o0) (dst := ej_ad a0 bs o1) (cs := vp_cell (cA 100) (mN M o0, .inl (aI M o0))) (cd := vp_cell (cA 100) (mN M o1, .inl (aI M o1))) (srcPos := sp) (destPos := dp) (n := n) (by rw [hT]; exact hc0) (by rw [hT]; exact hc1)
    (fun _ h => by cases h) (fun _ h => by cases h) (fun h => by cases h) (fun h => by cases h) hk0 hk1 hkk0 hkk1 (by simp [refKind]) h1 h2 h3
    (by rw [nn sp h1, nn n h3]; show ¬ _ > ((arrV (cA 100) (mN M o0) (fun j => .int (aI M o0 j))).slots.size : Int); rw [arrV_size]; omega)
    (by rw [nn dp h2, nn n h3]; show ¬ _ > ((arrV (cA 100) (mN M o1) (fun j => .int (aI M o1 j))).slots.size : Int); rw [arrV_size]; omega)
    (fun vm₁ _ i hi => by
      have e : (vp_cell (cA 100) (mN M o0, .inl (aI M o0))).slots.getD (sp.toNatClampNeg + i) .null = .int (aI M o0 (sp.toNatClampNeg + i)) := by
        show (arrV (cA 100) (mN M o0) (fun j => .int (aI M o0 j))).slots.getD _ _ = _
        rw [Array.getD_eq_getD_getElem?, arrV_read _ _ (by omega)]
        rfl
      refine ⟨?_, ?_⟩
      · rw [e]; rfl
      · rw [e]; exact trivial)
    (g := F0 m pc la (.int n :: .int dp :: .ref (ej_ad a0 bs o1) :: .int sp :: .ref (ej_ad a0 bs o0) :: st.map (ej_tr a0 bs vZ))) rfl (by rw [C.2.2.1]; exact hL.1) (rest := st.map (ej_tr a0 bs vZ)) rfl (by rw [C.2.1]; exact hd) hR.1 (by show 2 * 0 + _ + _ ≤ _; rw [cats_tr C.2.2.2.2.2.1.2.2.2.2.2]; omega)
  have e1 : copied (vp_cell (cA 100) (mN M o0, .inl (aI M o0))) (vp_cell (cA 100) (mN M o1, .inl (aI M o1))) sp dp n = vp_cell (cA 100) (mN M o1, .inl (va_cpy (aI M o0) (aI M o1) sp.toNatClampNeg dp.toNatClampNeg n.toNatClampNeg)) := va_copied (fun z => .int z) (cA 100) (cA 100) (aI M o0) (aI M o1) h4
  rw [e1] at X' step
  have hl : ej_ad a0 bs o1 < H.size := (Array.getElem?_eq_some_iff.mp hc1).1
  have oq : ∀ q : Nat, q ≠ ej_ad a0 bs o1 → (H.setIfInBounds (ej_ad a0 bs o1) (vp_cell (cA 100) (mN M o1, .inl (va_cpy (aI M o0) (aI M o1) sp.toNatClampNeg dp.toNatClampNeg n.toNatClampNeg))))[q]? = H[q]? := fun q hq => by simp [Array.getElem?_setIfInBounds, Ne.symm hq]
  have hP' := hW.1.set w_D hg1 (e := .inl (cA 100, mN M o1, .inl (va_cpy (aI M o0) (aI M o1) sp.toNatClampNeg dp.toNatClampNeg n.toNatClampNeg))) (show (H.setIfInBounds (ej_ad a0 bs o1) _)[ej_ad a0 bs o1]? = some _ by simp [Array.getElem?_setIfInBounds, hl]) oq
  have hce : ej_ce cA a0 bs (cpyM M o0 sp.toNatClampNeg o1 dp.toNatClampNeg n.toNatClampNeg) o1 = .inl (cA 100, mN M o1, .inl (va_cpy (aI M o0) (aI M o1) sp.toNatClampNeg dp.toNatClampNeg n.toNatClampNeg)) := by
    rw [ce_arr (M := cpyM M o0 sp.toNatClampNeg o1 dp.toNatClampNeg n.toNatClampNeg) (k := 100) ho1 (by omega), cpy_aI]; rfl
  rw [← hce, ← w_upd (M := M) (M' := cpyM M o0 sp.toNatClampNeg o1 dp.toNatClampNeg n.toNatClampNeg) rfl q59 qlt (fun i hi => cpy_ne hi)] at hP'
  obtain ⟨t, a1, b1⟩ := k _ _ la (wp_next hW rfl rfl (cm_of q59 fun i hi => ⟨rfl, rfl, rfl, rfl, by show va_up _ _ _ i = _; simp [va_up, hi]; rfl⟩) hP' (by simp)) ⟨by simp; exact hS.1, fun q g1 g2 => by
      rw [oq q (fun e => g2 (by rw [e]; exact w_ad q59))]
      exact hS.2.1 q g1 g2, fun q hq => by
      rcases List.mem_append.mp hq with h | h
      · exact hS.2.2 q h
      · obtain ⟨z, -, hz⟩ := List.mem_map.mp h
        rw [← hz]
        exact w_ad q59⟩ hL hz hs _ (by rw [← hT]; rfl) X'
  exact ⟨t, step t a1, b1⟩
-- calls
def ej_rm (d mc ms : Nat) : Room := { frames := d, cells := mc, slots := ms, locals := 38 * d }
def ej_Pc (D : va_G) (cA : Nat → ClassId) (a0 : Nat → Nat) (bs : Nat) (vZ : Value) (L : Nat) (xs : Nat → Int32) (av : List Value) (M : ej_Mem) : Array Value → State → Prop := va_Pc (av.map (ej_tr a0 bs vZ)) (fun U => ej_SF D cA a0 bs vZ L xs U U.heap ∧ ej_WP D cA a0 bs L xs M U.heap)
def ej_Qc (D : va_G) (cA : Nat → ClassId) (a0 : Nat → Nat) (bs : Nat) (vZ : Value) (L : Nat) (xs : Nat → Int32) (v : Option Value) (M : ej_Mem) : Array Value → State → Outcome → State → Prop := fun _ st o t => o = .returned (v.map (ej_tr a0 bs vZ)) ∧ ej_WP D cA a0 bs L xs M t.heap ∧ va_F (ej_A bs) st t
def ej_ws (m : Nat) : List Cond := .code (ej_y m) (ej_b m) (ej_mx m) (ej_rt m) :: gtbl
def ej_Met (l : Launch) (D : va_G) (cA : Nat → ClassId) (a0 : Nat → Nat) (bs : Nat) (vZ : Value) (L : Nat) (xs : Nat → Int32) (d m : Nat) (av : List Value) (M1 : ej_Mem) (v : Option Value) (M2 : ej_Mem) : Prop :=
  Met l (ej_y m) (ej_ws m) (ej_rm d (mZ M2 - mZ M1) (mS M2 - mS M1)) (ej_Pc D cA a0 bs vZ L xs av M1) (ej_Qc D cA a0 bs vZ L xs v M2) (mZ M2 - mZ M1) (mS M2 - mS M1) (ej_A bs)
theorem pc_blind (av : List Value) : FrameBlind (ej_Pc D cA a0 bs vZ L xs av M) := fun a U g mk h => ⟨h.1, sf_blind g mk a h.2.1, h.2.2⟩
theorem na_run {H : Heap} {locs : List Loc} {la : Array Slot} {st0 rest : List Value} {v : Option Value} {M2 : ej_Mem} {a : Array Value} {mc ms : Nat} (hz2 : mc = mZ M2 - mZ M) (hs2 : ms = mS M2 - mS M) (hle : mZ M ≤ mZ M2 ∧ mS M ≤ mS M2) (hz : z0 ≤ mZ M) (hs : s0 ≤ mS M)
    (hr : va_Run p l e R s m args below meth c H locs (mZ M - z0) (mS M - s0) mc ms (F0 m pc la st0) rest (ej_Qc D cA a0 bs vZ L xs v M2 a) (ej_A bs)) (hS : va_S (ej_A bs) s.heap H locs) (hL : ej_Lc a0 bs vZ (ej_mx me) la ls) (hrest : rest = st.map (ej_tr a0 bs vZ)) (k : ej_G p l e R s m args below meth c Q D cA a0 bs vZ L xs me z0 s0 (pc + 3) ls (v.toList ++ st) M2) : W p l e R s m args below meth c H locs (mZ M - z0) (mS M - s0) Q (F0 m pc la st0) := by
  intro T hT X
  obtain ⟨v', st₀, t, T', L1, h0, X', hL1, e1, e2, ⟨hv, hWP, hF⟩, step⟩ := hr T hT X
  obtain ⟨hzz, hkk⟩ := hF
  rw [h0] at hzz hkk
  have hv' : v' = v.map (ej_tr a0 bs vZ) := by cases hv; rfl
  subst hv'
  have hcc : mZ M - z0 + mc = mZ M2 - z0 := by omega
  have hss : mS M - s0 + ms = mS M2 - s0 := by omega
  rw [hcc, hss] at X'
  have hst : (v.toList ++ st).map (ej_tr a0 bs vZ) = (v.map (ej_tr a0 bs vZ)).toList ++ rest := by
    rw [hrest]; cases v <;> simp
  have hk := k T'.heap (locs ++ L1) la (by rw [e1]; exact hWP) ⟨Nat.le_trans hS.1 (by rw [e1]; exact hzz), fun q h1 h2 => by rw [e1, hkk q (Nat.lt_of_lt_of_le h1 hS.1) h2]; exact hS.2.1 q h1 h2, fun q hq => by
      rcases List.mem_append.mp hq with h | h
      · exact hS.2.2 q h
      · exact hL1 q h⟩ hL (by omega) (by omega)
  rw [hst] at hk
  obtain ⟨t2, a1, b1⟩ := hk T' rfl X'
  exact ⟨t2, step t2 a1, b1⟩
theorem ws_good {m' : Nat} (hm : m' < 221) : GoodIn gtbl (ej_ws m') := by
  intro w hw
  rcases List.mem_cons.mp hw with rfl | h
  · exact ⟨code_in hm, gt_good (code_in hm)⟩
  · exact ⟨h, gt_good h⟩
theorem nm_ok {m' : Nat} (hm : m' < 221) : (ej_y m').cls ≠ "java/lang/invoke/MethodHandle" ∧ (ej_y m').cls ≠ "java/lang/invoke/VarHandle" ∧ (parseMethodDescriptor (ej_y m').desc).map (fun d => d.parameters.length) = some (ej_na m') := by
  obtain ⟨h1, h2, h3⟩ := own_ok m' (by omega)
  obtain ⟨h4, h5, -⟩ := cls_ok _ h2
  rw [h1]
  exact ⟨h4, h5, na_ok m' (by omega)⟩
theorem ini_y {m' : Nat} (hm : m' < 221) : Cond.initialized (ej_y m').cls ∈ gtbl := by
  obtain ⟨h1, h2, h3⟩ := own_ok m' (by omega)
  rw [h1]
  exact init_in h2
theorem good_app {ws : List Cond} {big : List Cond} (a : List Cond) (ha : ∀ w ∈ a, w ∈ gtbl) (hw : GoodIn gtbl ws) : GoodIn gtbl (a ++ ws) := by
  intro w h
  rcases List.mem_append.mp h with h | h
  · exact ⟨ha w h, gt_good (ha w h)⟩
  · exact hw w h
theorem sd_static (C : ej_Cx p s m args meth c D cA a0 bs vZ L xs me) {ix m' d : Nat} {av : List Value} {v : Option Value} {M2 : ej_Mem} (hd : decode (ej_b me) pc = .ok (.invokestatic ix, 3)) (hw : hasM (ej_own me) ix m' = true) (his : isS m' = true) (hm : m' < 221) (hM : ej_Met l D cA a0 bs vZ L xs d m' av M v M2) (hR : d + 1 ≤ R.frames ∧ 38 * (d + 1) ≤ R.locals) (hn : av.length = ej_na m') (hcat : ej_cats st ≤ 8) (hle : mZ M ≤ mZ M2 ∧ mS M ≤ mS M2) (hr : mZ M2 - z0 ≤ R.cells ∧ mS M2 - s0 ≤ R.slots) (k : ej_G p l e R s m args below meth c Q D cA a0 bs vZ L xs me z0 s0 (pc + 3) ls (v.toList ++ st) M2) : ej_G p l e R s m args below meth c Q D cA a0 bs vZ L xs me z0 s0 pc ls (av.reverse ++ st) M := by
  intro H locs la hW hS hL hz hs
  have hts := C.2.2.2.2.1
  have hmx := (own_ok m' (by omega)).2.2
  have hrun := va_runS (As := av.map (ej_tr a0 bs vZ)) (rest := st.map (ej_tr a0 bs vZ)) (g := F0 m pc la ((av.reverse ++ st).map (ej_tr a0 bs vZ))) (below := below) (meth := meth) (H := H) (locs := locs) (cells := mZ M - z0) (slots := mS M - s0) (e := e) (R := R) ⟨C.1, C.2.1, C.2.2.1, C.2.2.2.1, hts⟩ hM
    (va_cwS (ej_na m') hts (good_app (big := gtbl) _ (fun w h => by
      rcases List.mem_cons.mp h with rfl | h
      · exact hasM_ok hw
      · rcases List.mem_cons.mp h with rfl | h
        · exact isS_ok his
        · rw [List.mem_singleton.mp h]; exact ini_y hm) (ws_good hm)) rfl rfl rfl (nm_ok hm) ⟨by show d + 1 ≤ _; exact hR.1, by show 8 + (ej_mx m' + 11) + 38 * d ≤ _; omega⟩)
    ⟨pc_blind av, fun U hU hWm => ⟨rfl, sf_call C.2.2.2.2.2.1 hS hU hWm, by rw [hU]; exact hW⟩⟩ rfl (by rw [List.length_map]; exact hn) hL.1 (by show (av.reverse ++ st).map _ = _; simp) (by show 2 * 0 + _ ≤ 8; rw [cats_tr C.2.2.2.2.2.1.2.2.2.2.2]; omega) hd ⟨by omega, by omega⟩
  exact na_run rfl rfl hle hz hs hrun hS hL rfl k
theorem recv_ok (C : ej_Cx p s m args meth c D cA a0 bs vZ L xs me) {H : Heap} {locs : List Loc} {o dd : Nat} (hW : ej_WP D cA a0 bs L xs M H) (hS : va_S (ej_A bs) s.heap H locs) (ho : mC M o = dd) (hdd : dd ≤ 10) : ∃ cellB : Cell, H[ej_ad a0 bs o]? = some cellB ∧ cellB.vm.isStatics = false ∧ s.vm.findClass (ej_cn dd) = some cellB.cls := by
  rcases Nat.lt_or_ge dd 10 with hc | hc
  · obtain ⟨h59, hlt⟩ := wp_id hW ho (Or.inl hc)
    have hg := w_get (cA := cA) (a0 := a0) (bs := bs) h59 hlt
    rw [ce_obj ho hc] at hg
    exact va_recv C.2.2.2.2.2.1.1 hW.1 (vw_at hc) hg
  · have hdd : dd = 10 := by omega
    subst hdd
    have h59 := wp_c hW ho (by omega)
    obtain ⟨c1, c2, c3, c4, c5⟩ := hW.2.2.2.1 o h59
    obtain ⟨t1, t2, t3⟩ := (C.2.2.2.2.2.1.2.1 o h59).2.2 (by rw [← c1]; exact ho)
    obtain ⟨cell, q1, q2, q3, -⟩ := t1.kept hS.2.1
    rw [tr_c h59]
    exact ⟨cell, q1, q2, q3⟩
theorem sd_virtual (C : ej_Cx p s m args meth c D cA a0 bs vZ L xs me) {ix m' d o dd : Nat} {av : List Value} {v : Option Value} {M2 : ej_Mem} (hd : decode (ej_b me) pc = .ok (.invokevirtual ix, 3)) (hw : hasM (ej_own me) ix m' = true) (his : isV m' = true) (hm : m' < 221) (ho : mC M o = dd) (hdd : dd ≤ 10 ∧ ej_own m' = dd) (hM : ej_Met l D cA a0 bs vZ L xs d m' (.ref o :: av) M v M2) (hR : d + 1 ≤ R.frames ∧ 38 * (d + 1) ≤ R.locals) (hn : av.length = ej_na m') (hcat : ej_cats st ≤ 8) (hle : mZ M ≤ mZ M2 ∧ mS M ≤ mS M2) (hr : mZ M2 - z0 ≤ R.cells ∧ mS M2 - s0 ≤ R.slots) (k : ej_G p l e R s m args below meth c Q D cA a0 bs vZ L xs me z0 s0 (pc + 3) ls (v.toList ++ st) M2) : ej_G p l e R s m args below meth c Q D cA a0 bs vZ L xs me z0 s0 pc ls (av.reverse ++ .ref o :: st) M := by
  intro H locs la hW hS hL hz hs
  have hts := C.2.2.2.2.1
  obtain ⟨hy, -, hmx⟩ := own_ok m' (by omega)
  obtain ⟨hv1, hv2⟩ := isV_ok his
  have hrc := recv_ok C hW hS ho hdd.1
  rw [← hdd.2, ← hy] at hrc
  have hrun := va_runV (C := (ej_y m').cls) (b := ej_ad a0 bs o) (As := av.map (ej_tr a0 bs vZ)) (rest := st.map (ej_tr a0 bs vZ)) (g := F0 m pc la ((av.reverse ++ .ref o :: st).map (ej_tr a0 bs vZ))) (below := below) (meth := meth) (H := H) (locs := locs) (cells := mZ M - z0) (slots := mS M - s0) (e := e) (R := R) ⟨C.1, C.2.1, C.2.2.1, C.2.2.2.1, hts⟩ hM
    (cwV (ej_na m') hts (good_app (big := gtbl) _ (fun w h => by
      rcases List.mem_cons.mp h with rfl | h
      · exact hasM_ok hw
      · rcases List.mem_cons.mp h with rfl | h
        · exact hv1
        · rcases List.mem_cons.mp h with rfl | h
          · exact hv2
          · rw [List.mem_singleton.mp h]; exact ini_y hm) (ws_good hm)) rfl rfl rfl ⟨rfl, nm_ok hm⟩ ⟨by show d + 1 ≤ _; exact hR.1, by show 8 + (ej_mx m' + 11) + 38 * d ≤ _; omega⟩)
    ⟨pc_blind _, hrc, fun U hU hWm => ⟨rfl, sf_call C.2.2.2.2.2.1 hS hU hWm, by rw [hU]; exact hW⟩⟩ rfl (by rw [List.length_map]; exact hn) hL.1 (by show (av.reverse ++ .ref o :: st).map _ = _; simp [tr_ref]) (by show 2 * 0 + _ ≤ 8; rw [cats_tr C.2.2.2.2.2.1.2.2.2.2.2]; omega) hd ⟨by omega, by omega⟩
  exact na_run rfl rfl hle hz hs hrun hS hL rfl k
theorem sd_special (C : ej_Cx p s m args meth c D cA a0 bs vZ L xs me) {ix m' d o : Nat} {av : List Value} {v : Option Value} {M2 : ej_Mem} (hd : decode (ej_b me) pc = .ok (.invokespecial ix, 3)) (hw : hasM (ej_own me) ix m' = true ∨ hasN (ej_own me) ix m' = true) (his : isI m' = true) (hm : m' < 221) (hM : ej_Met l D cA a0 bs vZ L xs d m' (.ref o :: av) M v M2) (hR : d + 1 ≤ R.frames ∧ 38 * (d + 1) ≤ R.locals) (hn : av.length = ej_na m') (hcat : ej_cats st ≤ 8) (hle : mZ M ≤ mZ M2 ∧ mS M ≤ mS M2) (hr : mZ M2 - z0 ≤ R.cells ∧ mS M2 - s0 ≤ R.slots) (k : ej_G p l e R s m args below meth c Q D cA a0 bs vZ L xs me z0 s0 (pc + 3) ls (v.toList ++ st) M2) : ej_G p l e R s m args below meth c Q D cA a0 bs vZ L xs me z0 s0 pc ls (av.reverse ++ .ref o :: st) M := by
  intro H locs la hW hS hL hz hs
  have hts := C.2.2.2.2.1
  obtain ⟨hy, -, hmx⟩ := own_ok m' (by omega)
  obtain ⟨hi1, hi2, hi3⟩ := isI_ok his
  have hws : ej_ws m' = Cond.code (ej_y m') (ej_b m') (ej_mx m') none :: gtbl := by unfold ej_ws; rw [hi3]
  have hRR : (ej_rm d (mZ M2 - mZ M) (mS M2 - mS M)).frames + 1 ≤ R.frames ∧ 8 + (ej_mx m' + 11) + (ej_rm d (mZ M2 - mZ M) (mS M2 - mS M)).locals ≤ R.locals := ⟨by show d + 1 ≤ _; exact hR.1, by show 8 + (ej_mx m' + 11) + 38 * d ≤ _; omega⟩
  have hp : PreS s H (ej_Pc D cA a0 bs vZ L xs (.ref o :: av) M) (.ref (ej_ad a0 bs o) :: av.map (ej_tr a0 bs vZ)) := ⟨pc_blind _, fun U hU hWm => ⟨rfl, sf_call C.2.2.2.2.2.1 hS hU hWm, by rw [hU]; exact hW⟩⟩
  rcases hw with hw | hw
  · have hrun := va_runI (b := ej_ad a0 bs o) (As := av.map (ej_tr a0 bs vZ)) (rest := st.map (ej_tr a0 bs vZ)) (g := F0 m pc la ((av.reverse ++ .ref o :: st).map (ej_tr a0 bs vZ))) (below := below) (meth := meth) (H := H) (locs := locs) (cells := mZ M - z0) (slots := mS M - s0) (e := e) (R := R) ⟨C.1, C.2.1, C.2.2.1, C.2.2.2.1, hts⟩ hM
      (cwI (ej_na m') hts (ws_good hm) hws rfl rfl (hts _ (ini_y hm)) (hts _ (hasM_ok hw)) (hts _ hi1) hi2 (nm_ok hm) hRR) hp rfl (by rw [List.length_map]; exact hn) hL.1 (by show (av.reverse ++ .ref o :: st).map _ = _; simp [tr_ref]) (by show 2 * 0 + _ ≤ 8; rw [cats_tr C.2.2.2.2.2.1.2.2.2.2.2]; omega) hd ⟨by omega, by omega⟩
    exact na_run rfl rfl hle hz hs hrun hS hL rfl k
  · obtain ⟨e', he', heq⟩ := hasN_ok hw
    have hnw := C.2.2.2.2.2.1.2.2.2.1.1 e' he'
    rw [← heq] at hnw
    have hrun := va_runIN (host := "FeignedSuit") (b := ej_ad a0 bs o) (As := av.map (ej_tr a0 bs vZ)) (rest := st.map (ej_tr a0 bs vZ)) (g := F0 m pc la ((av.reverse ++ .ref o :: st).map (ej_tr a0 bs vZ))) (below := below) (meth := meth) (H := H) (locs := locs) (cells := mZ M - z0) (slots := mS M - s0) (e := e) (R := R) ⟨C.1, C.2.1, C.2.2.1, C.2.2.2.1, hts⟩ hM
      ⟨va_cnB (ej_na m') hts (ws_good hm) hws rfl rfl hnw (hts _ (ini_y hm)) (nm_ok hm) hRR, hi2, hts _ hi1⟩ hp rfl (by rw [List.length_map]; exact hn) hL.1 (by show (av.reverse ++ .ref o :: st).map _ = _; simp [tr_ref]) (by show 2 * 0 + _ ≤ 8; rw [cats_tr C.2.2.2.2.2.1.2.2.2.2.2]; omega) hd ⟨by omega, by omega⟩
    exact na_run rfl rfl hle hz hs hrun hS hL rfl k
set_option maxHeartbeats 1000000 in
theorem sd_clone (C : ej_Cx p s m args meth c D cA a0 bs vZ L xs me) {o : Nat} (hd : decode (ej_b me) pc = .ok (.invokevirtual 316, 3)) (hown : ej_own me = 16) (hR : 1 ≤ R.frames ∧ 38 ≤ R.locals) (hcat : ej_cats st ≤ 8) (ho : mC M o = 100) (hr : mZ M + 1 - z0 ≤ R.cells ∧ mS M + mN M o - s0 ≤ R.slots) (k : ej_G p l e R s m args below meth c Q D cA a0 bs vZ L xs me z0 s0 (pc + 3) ls (.ref (mZ M) :: st) (cloneM M o)) : ej_G p l e R s m args below meth c Q D cA a0 bs vZ L xs me z0 s0 pc ls (.ref o :: st) M := by
  intro H locs la hW hS hL hz hs
  obtain ⟨h59, hlt⟩ := wp_id hW ho (Or.inr (by omega))
  have hg := w_get (cA := cA) (a0 := a0) (bs := bs) h59 hlt
  rw [ce_arr ho (by omega)] at hg
  have hts := C.2.2.2.2.1
  have hK := C.2.2.2.2.2.1.1
  have hO := C.2.2.2.1
  rw [hown] at hO
  have hnm : s.vm.findClass "[I" = some (cA 100) := (hK.2 0 _ rfl).2
  obtain ⟨c0, t0', f1, f2, f3⟩ := Cond.castable_spec (va_Nw.use (A := args) rfl C.2.2.2.2.2.1.2.2.2.1.2.2.2.1)
  cases hnm.symm.trans f1
  intro T hT X
  have hcellT : T.heap[ej_ad a0 bs o]? = some (vp_cell (cA 100) (mN M o, .inl (aI M o))) := by rw [hT]; exact hW.1 _ _ hg
  have hsz : (vp_cell (cA 100) (mN M o, .inl (aI M o))).slots.size = mN M o := arrV_size _ _ _
  obtain ⟨-, kA, hkA, comp, hkind⟩ := State.isArrayOf_alike X.warmed.alike ((hK.2 0 _ rfl).1 0 (fun _ => .null))
  obtain ⟨-, kS, hkS, compS, hkindS⟩ := (hK.2 0 _ rfl).1 0 (fun _ => .null)
  obtain ⟨vm', X', st'⟩ := X.cloneArray C.1 hO (hts _ cl_lnk) (hts _ cl_sam) (hts _ cl_nat) (hts _ cl_ins) (hts _ cl_sel) (a := ej_ad a0 bs o) (cell := vp_cell (cA 100) (mN M o, .inl (aI M o))) hcellT (fun k h => by cases h) (fun h => by cases h) hnm f2 f3
    (fun i v hv => by
      have hk' : T.vm.classes[cA 100]? = some kA := hkA
      have hi : i < mN M o := by rw [← hsz]; exact (Array.getElem?_eq_some_iff.mp hv).1
      have hv' : v = .int (aI M o i) := by
        have h2 : (arrV (cA 100) (mN M o) (fun j => .int (aI M o j))).slots[i]? = some v := hv
        rw [arrV_read _ _ hi] at h2
        exact (Option.some.inj h2).symm
      have hft : fits .int v = true := by rw [hv']; rfl
      show T.fitsSlot (cA 100) _ i v = true
      simpa [State.fitsSlot, State.slotType?, hk', hkind] using hft)
    (g := F0 m pc la (.ref (ej_ad a0 bs o) :: st.map (ej_tr a0 bs vZ))) rfl (by rw [C.2.2.1]; exact hL.1) rfl (by rw [C.2.1]; exact hd) hR.1 (by show 2 * 0 + _ + 14 ≤ _; rw [cats_tr C.2.2.2.2.2.1.2.2.2.2.2]; omega) (by omega) (by rw [hsz]; omega) (hloader := Vm.clonesLoader_of_array hkS hkindS)
  rw [hsz] at X'
  have hcl : ej_ce cA a0 bs (cloneM M o) (mZ M) = .inl (cA 100, mN M o, .inl (aI M o)) := by
    rw [ce_arr (M := cloneM M o) (k := 100) (newM_Cz (M := M) (kd := 100) (n := mN M o) (sl := mN M o)) (by omega)]
    have h1 : mN (cloneM M o) (mZ M) = mN M o := newM_Nz (M := M) (kd := 100) (n := mN M o) (sl := mN M o)
    have h2 : aI (cloneM M o) (mZ M) = aI M o := by show va_up _ _ _ (mZ M) = _; simp [va_up]
    rw [h1, h2]
  have hne : ∀ i, i < mZ M → ej_ce cA a0 bs (cloneM M o) i = ej_ce cA a0 bs M i := by
    intro i hi
    rw [← new_ne (M := M) (kd := 100) (n := mN M o) (sl := mN M o) hi]
    exact ce_same rfl rfl rfl rfl rfl (by show va_up _ _ _ i = _; simp [va_up, show i ≠ mZ M by omega]; rfl) rfl
  have hcm : 59 ≤ mZ M → ej_CM M (cloneM M o) := by
    intro h i hi
    obtain ⟨b1, b2, b3, b4, b5⟩ := newM_CM (M := M) (kd := 100) (n := mN M o) (sl := mN M o) h i hi
    exact ⟨b1, b2, b3, b4, Eq.trans (by show va_up _ _ _ i = _; simp [va_up, show i ≠ mZ M by omega]; rfl) b5⟩
  have hw := na_new (pc := pc + 3) (M := M) (M' := cloneM M o) (H := H) (H1 := H.push (vp_cell (cA 100) (mN M o, .inl (aI M o)))) (locs := locs) (la := la) (sl := mN M o) k rfl rfl (fun i hi => newM_C (M := M) (kd := 100) (n := mN M o) (sl := mN M o) hi) (by rw [show mC (cloneM M o) (mZ M) = 100 from newM_Cz (M := M) (kd := 100) (n := mN M o) (sl := mN M o)]; exact Or.inr (by omega)) hcm hne hcl hW hS hL hz hs
    (by show (H.push _)[H.size]? = some _; rw [Array.getElem?_push_size]) (by simp) (fun q hq => by rw [Array.getElem?_push, if_neg (Nat.ne_of_lt hq)])
  obtain ⟨t, b1, b2⟩ := hw ((T.setVm vm').pushCell (vp_cell (cA 100) (mN M o, .inl (aI M o)))) (by rw [← hT]; rfl) X'
  refine ⟨t, st' t ?_, b2⟩
  rw [hT]
  exact b1
end STEP
