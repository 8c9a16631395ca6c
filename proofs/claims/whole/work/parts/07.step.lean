/-! one instruction: the model's machine does what mine does -/
/-- the locals: as far as mine are known -/
def ej_Lc (a0 : Nat → Nat) (bs : Nat) (vZ : Value) (nL : Nat) (la : Array Slot) (ls : ej_L) : Prop := la.size = nL ∧ ls.length = nL ∧ lv_wf la ∧ ∀ (i : Nat) (v : Value), ls[i]? = some (some v) → la[i]? = some (.val (ej_tr a0 bs vZ v))
/-- a method that runs: its code, its words, its entry -/
def ej_Cx (p : Program) (s : State) (m : MethodId) (args : Array Value) (meth : Method) (c : Code) (D : va_G) (cA : Nat → ClassId) (a0 : Nat → Nat) (bs : Nat) (vZ : Value) (L : Nat) (xs : Nat → Int32) (me : Nat) : Prop :=
  p.tables.exec = Jvm.exec ∧ c.code = ej_b me ∧ c.maxLocals = ej_mx me ∧ s.vm.findClass (ej_cn (ej_own me)) = some m.cls ∧ (∀ w ∈ gtbl, w.before args s = true) ∧ ej_SF D cA a0 bs vZ L xs s s.heap ∧ bs ≤ s.heap.size ∧ meth.name = (ej_y me).name
def ej_G (p : Program) (l : Launch) (e : Env) (R : Room) (s : State) (m : MethodId) (args : Array Value) (below : List Frame) (meth : Method) (c : Code) (Q : State → Prop) (D : va_G) (cA : Nat → ClassId) (a0 : Nat → Nat) (bs : Nat) (vZ : Value) (L : Nat) (xs : Nat → Int32) (me z0 s0 : Nat) (pc : Nat) (ls : ej_L) (st : List Value) (M : ej_Mem) : Prop :=
  ∀ (H : Heap) (locs : List Loc) (la : Array Slot), ej_WP D cA a0 bs L xs M H → va_S (ej_A bs) s.heap H locs → ej_Lc a0 bs vZ (ej_mx me) la ls → z0 ≤ mZ M → s0 ≤ mS M →
    W p l e R s m args below meth c H locs (mZ M - z0) (mS M - s0) Q (F0 m pc la (st.map (ej_tr a0 bs vZ)))
section STEP
variable {p : Program} {l : Launch} {e : Env} {R : Room} {s : State} {m : MethodId} {args : Array Value} {below : List Frame} {meth : Method} {c : Code} {Q : State → Prop} {D : va_G} {cA : Nat → ClassId} {a0 : Nat → Nat} {bs : Nat} {vZ : Value} {L : Nat} {xs : Nat → Int32} {me z0 s0 pc : Nat} {ls : ej_L} {st : List Value} {M : ej_Mem}
-- constants
theorem sd_iconst (C : ej_Cx p s m args meth c D cA a0 bs vZ L xs me) {n : Int} {v : Int32} (hd : decode (ej_b me) pc = .ok (.iconst n, 1)) (hv : Int32.ofInt n = v) (k : ej_G p l e R s m args below meth c Q D cA a0 bs vZ L xs me z0 s0 (pc + 1) ls (.int v :: st) M) : ej_G p l e R s m args below meth c Q D cA a0 bs vZ L xs me z0 s0 pc ls st M :=
  fun H locs la hW hS hL hz hs => lv_iconst C.1 C.2.1 hd hv (k H locs la hW hS hL hz hs)
theorem sd_bipush (C : ej_Cx p s m args meth c D cA a0 bs vZ L xs me) {n : Int} {v : Int32} (hd : decode (ej_b me) pc = .ok (.bipush n, 2)) (hv : (Int8.ofInt n).toInt32 = v) (k : ej_G p l e R s m args below meth c Q D cA a0 bs vZ L xs me z0 s0 (pc + 2) ls (.int v :: st) M) : ej_G p l e R s m args below meth c Q D cA a0 bs vZ L xs me z0 s0 pc ls st M :=
  fun H locs la hW hS hL hz hs => lv_bipush C.1 C.2.1 hd hv (k H locs la hW hS hL hz hs)
theorem sd_sipush (C : ej_Cx p s m args meth c D cA a0 bs vZ L xs me) {n : Int} {v : Int32} (hd : decode (ej_b me) pc = .ok (.sipush n, 3)) (hv : (Int16.ofInt n).toInt32 = v) (k : ej_G p l e R s m args below meth c Q D cA a0 bs vZ L xs me z0 s0 (pc + 3) ls (.int v :: st) M) : ej_G p l e R s m args below meth c Q D cA a0 bs vZ L xs me z0 s0 pc ls st M :=
  fun H locs la hW hS hL hz hs => lv_sipush C.1 C.2.1 hd hv (k H locs la hW hS hL hz hs)
theorem sd_ldc (C : ej_Cx p s m args meth c D cA a0 bs vZ L xs me) {n : Nat} {v : Int32} (hd : decode (ej_b me) pc = .ok (.ldc n, 2)) (hw : Cond.constant (ej_cn (ej_own me)) n v ∈ gtbl) (k : ej_G p l e R s m args below meth c Q D cA a0 bs vZ L xs me z0 s0 (pc + 2) ls (.int v :: st) M) : ej_G p l e R s m args below meth c Q D cA a0 bs vZ L xs me z0 s0 pc ls st M :=
  fun H locs la hW hS hL hz hs => lv_ldc C.1 C.2.1 C.2.2.2.1 (C.2.2.2.2.1 _ hw) hd (k H locs la hW hS hL hz hs)
theorem sd_ldc2 (C : ej_Cx p s m args meth c D cA a0 bs vZ L xs me) {n : Nat} {v : Int64} (hd : decode (ej_b me) pc = .ok (.ldc2_w n, 3)) (hw : Cond.constantLong (ej_cn (ej_own me)) n v ∈ gtbl) (k : ej_G p l e R s m args below meth c Q D cA a0 bs vZ L xs me z0 s0 (pc + 3) ls (.long v :: st) M) : ej_G p l e R s m args below meth c Q D cA a0 bs vZ L xs me z0 s0 pc ls st M :=
  fun H locs la hW hS hL hz hs => lv_ldc2 C.1 C.2.1 C.2.2.2.1 (C.2.2.2.2.1 _ hw) hd (k H locs la hW hS hL hz hs)
theorem sd_lconst (C : ej_Cx p s m args meth c D cA a0 bs vZ L xs me) {n : Fin 2} {v : Int64} (hd : decode (ej_b me) pc = .ok (.lconst n, 1)) (hv : Int64.ofNat (n : Nat) = v) (k : ej_G p l e R s m args below meth c Q D cA a0 bs vZ L xs me z0 s0 (pc + 1) ls (.long v :: st) M) : ej_G p l e R s m args below meth c Q D cA a0 bs vZ L xs me z0 s0 pc ls st M :=
  fun H locs la hW hS hL hz hs => lv_lconst C.1 C.2.1 hd hv (k H locs la hW hS hL hz hs)
theorem sd_null (C : ej_Cx p s m args meth c D cA a0 bs vZ L xs me) (hd : decode (ej_b me) pc = .ok (.aconst_null, 1)) (k : ej_G p l e R s m args below meth c Q D cA a0 bs vZ L xs me z0 s0 (pc + 1) ls (.null :: st) M) : ej_G p l e R s m args below meth c Q D cA a0 bs vZ L xs me z0 s0 pc ls st M :=
  fun H locs la hW hS hL hz hs => lv_null C.1 C.2.1 hd (k H locs la hW hS hL hz hs)
theorem sd_ldcS (C : ej_Cx p s m args meth c D cA a0 bs vZ L xs me) {n i : Nat} (hd : decode (ej_b me) pc = .ok (.ldc n, 2)) (hw : hasT (ej_own me) n i = true) (hi : i < 59) (k : ej_G p l e R s m args below meth c Q D cA a0 bs vZ L xs me z0 s0 (pc + 2) ls (.ref i :: st) M) : ej_G p l e R s m args below meth c Q D cA a0 bs vZ L xs me z0 s0 pc ls st M := by
  intro H locs la hW hS hL hz hs
  obtain ⟨e, he, h1, h2, h3⟩ := hasT_ok hw
  have hR := C.2.2.2.2.2.1.2.2.1 e he
  rw [← h1, ← h2, ← h3] at hR
  have hk := k H locs la hW hS hL hz hs
  have e1 : (Value.ref i :: st).map (ej_tr a0 bs vZ) = .ref (a0 i) :: st.map (ej_tr a0 bs vZ) := by simp [ej_tr, ej_ad, hi]
  rw [e1] at hk
  exact va_ldcS C.1 C.2.1 C.2.2.2.1 hR hd hk
-- locals
theorem lc_get {la : Array Slot} {i : Nat} {v : Value} (hL : ej_Lc a0 bs vZ (ej_mx me) la ls) (h : ls.getD i none = some v) : la[i]? = some (.val (ej_tr a0 bs vZ v)) := by
  refine hL.2.2.2 i v ?_
  rw [List.getD_eq_getElem?_getD] at h
  cases hq : ls[i]? with
  | none => rw [hq] at h; cases h
  | some w => rw [hq] at h; simp at h; rw [h]
theorem sd_iload (C : ej_Cx p s m args meth c D cA a0 bs vZ L xs me) {i : Nat} {x : Int32} (hd : decode (ej_b me) pc = .ok (.iload i, 2)) (h : ls.getD i none = some (.int x)) (k : ej_G p l e R s m args below meth c Q D cA a0 bs vZ L xs me z0 s0 (pc + 2) ls (.int x :: st) M) : ej_G p l e R s m args below meth c Q D cA a0 bs vZ L xs me z0 s0 pc ls st M :=
  fun H locs la hW hS hL hz hs => lv_iload C.1 C.2.1 hd (lc_get hL h) (k H locs la hW hS hL hz hs)
theorem sd_iload_n (C : ej_Cx p s m args meth c D cA a0 bs vZ L xs me) {n : Fin 4} {i : Nat} {x : Int32} (hd : decode (ej_b me) pc = .ok (.iload_n n, 1)) (hi : (n : Nat) = i) (h : ls.getD i none = some (.int x)) (k : ej_G p l e R s m args below meth c Q D cA a0 bs vZ L xs me z0 s0 (pc + 1) ls (.int x :: st) M) : ej_G p l e R s m args below meth c Q D cA a0 bs vZ L xs me z0 s0 pc ls st M :=
  fun H locs la hW hS hL hz hs => lv_iload_n C.1 C.2.1 hd hi (lc_get hL h) (k H locs la hW hS hL hz hs)
theorem sd_lload (C : ej_Cx p s m args meth c D cA a0 bs vZ L xs me) {i : Nat} {x : Int64} (hd : decode (ej_b me) pc = .ok (.lload i, 2)) (h : ls.getD i none = some (.long x)) (k : ej_G p l e R s m args below meth c Q D cA a0 bs vZ L xs me z0 s0 (pc + 2) ls (.long x :: st) M) : ej_G p l e R s m args below meth c Q D cA a0 bs vZ L xs me z0 s0 pc ls st M :=
  fun H locs la hW hS hL hz hs => lv_lload C.1 C.2.1 hd (lc_get hL h) (k H locs la hW hS hL hz hs)
theorem sd_lload_n (C : ej_Cx p s m args meth c D cA a0 bs vZ L xs me) {n : Fin 4} {i : Nat} {x : Int64} (hd : decode (ej_b me) pc = .ok (.lload_n n, 1)) (hi : (n : Nat) = i) (h : ls.getD i none = some (.long x)) (k : ej_G p l e R s m args below meth c Q D cA a0 bs vZ L xs me z0 s0 (pc + 1) ls (.long x :: st) M) : ej_G p l e R s m args below meth c Q D cA a0 bs vZ L xs me z0 s0 pc ls st M :=
  fun H locs la hW hS hL hz hs => lv_lload_n C.1 C.2.1 hd hi (lc_get hL h) (k H locs la hW hS hL hz hs)
theorem sd_aloadV (C : ej_Cx p s m args meth c D cA a0 bs vZ L xs me) {i : Nat} {v w : Value} (hd : decode (ej_b me) pc = .ok (.aload i, 2)) (h : ls.getD i none = some v) (hw : ej_tr a0 bs vZ v = w) (hv : w = .null ∨ ∃ q, w = .ref q) (k : ej_G p l e R s m args below meth c Q D cA a0 bs vZ L xs me z0 s0 (pc + 2) ls (v :: st) M) : ej_G p l e R s m args below meth c Q D cA a0 bs vZ L xs me z0 s0 pc ls st M := by
  intro H locs la hW hS hL hz hs
  have hk := k H locs la hW hS hL hz hs
  have hl := lc_get hL h
  rw [List.map_cons, hw] at hk
  rw [hw] at hl
  rcases hv with rfl | ⟨q, rfl⟩
  · exact lv_aloadN C.1 C.2.1 hd hl hk
  · exact lv_aload C.1 C.2.1 hd hl hk
theorem sd_aload_nV (C : ej_Cx p s m args meth c D cA a0 bs vZ L xs me) {n : Fin 4} {i : Nat} {v w : Value} (hd : decode (ej_b me) pc = .ok (.aload_n n, 1)) (hi : (n : Nat) = i) (h : ls.getD i none = some v) (hw : ej_tr a0 bs vZ v = w) (hv : w = .null ∨ ∃ q, w = .ref q) (k : ej_G p l e R s m args below meth c Q D cA a0 bs vZ L xs me z0 s0 (pc + 1) ls (v :: st) M) : ej_G p l e R s m args below meth c Q D cA a0 bs vZ L xs me z0 s0 pc ls st M := by
  intro H locs la hW hS hL hz hs
  have hk := k H locs la hW hS hL hz hs
  have hl := lc_get hL h
  rw [List.map_cons, hw] at hk
  rw [hw] at hl
  rcases hv with rfl | ⟨q, rfl⟩
  · exact lv_aload_nN C.1 C.2.1 hd hi hl hk
  · exact lv_aload_n C.1 C.2.1 hd hi hl hk
/-- my locals as the kit lists them -/
def ej_lv (a0 : Nat → Nat) (bs : Nat) (vZ : Value) (ls : ej_L) : List (Nat × Value) := (List.range ls.length).filterMap fun i => match ls.getD i none with
  | some v => some (i, ej_tr a0 bs vZ v)
  | none => none
theorem lv_mem {q : Nat × Value} : q ∈ ej_lv a0 bs vZ ls ↔ q.1 < ls.length ∧ ∃ v, ls.getD q.1 none = some v ∧ q.2 = ej_tr a0 bs vZ v := by
  unfold ej_lv
  rw [List.mem_filterMap]
  constructor
  · rintro ⟨i, hi, h⟩
    have hi := List.mem_range.mp hi
    cases hq : ls.getD i none with
    | none => rw [hq] at h; cases h
    | some v =>
      rw [hq] at h
      cases h
      exact ⟨hi, v, hq, rfl⟩
  · rintro ⟨h1, v, h2, h3⟩
    refine ⟨q.1, List.mem_range.mpr h1, ?_⟩
    rw [h2]
    show some (q.1, ej_tr a0 bs vZ v) = some q
    rw [← h3]
theorem gd_iff {i : Nat} {v : Value} : ls.getD i none = some v ↔ ls[i]? = some (some v) := by
  rw [List.getD_eq_getElem?_getD]
  cases ls[i]? with
  | none => simp
  | some w => simp
theorem lc_has {la : Array Slot} {nL : Nat} (hL : ej_Lc a0 bs vZ nL la ls) : lv_has la nL (ej_lv a0 bs vZ ls) := by
  refine ⟨hL.1, hL.2.2.1, fun q hq => ?_⟩
  obtain ⟨-, v, h1, h2⟩ := lv_mem.mp hq
  rw [h2]
  exact hL.2.2.2 _ _ (gd_iff.mp h1)
theorem tr_cat (hvz : vZ = .null ∨ ∃ t, vZ = .ref t) (v : Value) : (ej_tr a0 bs vZ v).category = v.category := by
  cases v <;> first | rfl | (show vZ.category = _; rcases hvz with rfl | ⟨t, rfl⟩ <;> rfl)
theorem clr_len (i : Nat) : (ej_clr ls i).length = ls.length := by
  cases i with
  | zero => rfl
  | succ j =>
    unfold ej_clr
    simp only
    split <;> simp
theorem clr_get {i j : Nat} {v : Value} (h : (ej_clr ls i)[j]? = some (some v)) : ls[j]? = some (some v) ∧ ¬ (j + 1 = i ∧ v.category = 2) := by
  cases i with
  | zero => exact ⟨h, by omega⟩
  | succ k =>
    unfold ej_clr at h
    simp only at h
    have key : ∀ w : Option Value, ls.getD k none = w → (∀ u, w = some u → u.category = 2 → (ls.set k none)[j]? = some (some v) → ls[j]? = some (some v) ∧ ¬ (j + 1 = k + 1 ∧ v.category = 2)) := by
      intro w hw u hu hc hs
      by_cases hjk : j = k
      · subst hjk
        rw [List.getElem?_set] at hs
        simp at hs
      · rw [List.getElem?_set_ne (fun q => hjk q.symm)] at hs
        exact ⟨hs, by omega⟩
    split at h
    · rename_i x hx
      exact key _ hx _ rfl rfl h
    · rename_i x hx
      exact key _ hx _ rfl rfl h
    · rename_i hx1 hx2
      refine ⟨h, ?_⟩
      rintro ⟨q1, q2⟩
      have hjk : j = k := by omega
      subst hjk
      have hg := gd_iff.mpr h
      cases v with
      | long y => exact hx1 y hg
      | double y => exact hx2 y hg
      | _ => simp [Value.category] at q2
theorem lc_s1 {la : Array Slot} {nL i : Nat} {v : Value} (hvz : vZ = .null ∨ ∃ t, vZ = .ref t) (hL : ej_Lc a0 bs vZ nL la ls) (hi : i < nL) (hc : v.category = 1) {la' : Array Slot} (h' : lv_has la' nL ((i, ej_tr a0 bs vZ v) :: (ej_lv a0 bs vZ ls).filter (fun q => !(q.1 == i) && !(q.1 + 1 == i && q.2.category == 2)))) : ej_Lc a0 bs vZ nL la' (ej_s1 ls i v) := by
  refine ⟨h'.1, by rw [ej_s1, List.length_set, clr_len]; exact hL.2.1, h'.2.1, fun j w hw => ?_⟩
  unfold ej_s1 at hw
  by_cases hij : i = j
  · subst hij
    rw [List.getElem?_set_self (by rw [clr_len, hL.2.1]; exact hi)] at hw
    cases hw
    exact h'.2.2 _ List.mem_cons_self
  · rw [List.getElem?_set_ne hij] at hw
    obtain ⟨h1, h2⟩ := clr_get hw
    refine h'.2.2 (j, ej_tr a0 bs vZ w) (List.mem_cons_of_mem _ (List.mem_filter.mpr ⟨lv_mem.mpr ⟨?_, w, gd_iff.mpr h1, rfl⟩, ?_⟩))
    · exact (List.getElem?_eq_some_iff.mp h1).1
    · simp only [Bool.and_eq_true, Bool.not_eq_true', beq_eq_false_iff_ne, ne_eq, Bool.and_eq_false_iff, tr_cat hvz]
      refine ⟨fun q => hij q.symm, ?_⟩
      by_cases q : j + 1 = i
      · exact Or.inr (fun z => h2 ⟨q, z⟩)
      · exact Or.inl q
theorem lc_s2 {la : Array Slot} {nL i : Nat} {v : Value} (hvz : vZ = .null ∨ ∃ t, vZ = .ref t) (hL : ej_Lc a0 bs vZ nL la ls) (hi : i + 1 < nL) {la' : Array Slot} (h' : lv_has la' nL ((i, ej_tr a0 bs vZ v) :: (ej_lv a0 bs vZ ls).filter (fun q => !(q.1 == i) && (!(q.1 == i + 1) && !(q.1 + 1 == i && q.2.category == 2))))) : ej_Lc a0 bs vZ nL la' (ej_s2 ls i v) := by
  refine ⟨h'.1, by rw [ej_s2, List.length_set, List.length_set, clr_len]; exact hL.2.1, h'.2.1, fun j w hw => ?_⟩
  unfold ej_s2 at hw
  by_cases hj1 : i + 1 = j
  · subst hj1
    rw [List.getElem?_set] at hw
    simp at hw
  · rw [List.getElem?_set_ne hj1] at hw
    by_cases hij : i = j
    · subst hij
      rw [List.getElem?_set_self (by rw [clr_len, hL.2.1]; omega)] at hw
      cases hw
      exact h'.2.2 _ List.mem_cons_self
    · rw [List.getElem?_set_ne hij] at hw
      obtain ⟨h1, h2⟩ := clr_get hw
      refine h'.2.2 (j, ej_tr a0 bs vZ w) (List.mem_cons_of_mem _ (List.mem_filter.mpr ⟨lv_mem.mpr ⟨?_, w, gd_iff.mpr h1, rfl⟩, ?_⟩))
      · exact (List.getElem?_eq_some_iff.mp h1).1
      · simp only [Bool.and_eq_true, Bool.not_eq_true', beq_eq_false_iff_ne, ne_eq, Bool.and_eq_false_iff, tr_cat hvz]
        refine ⟨fun q => hij q.symm, fun q => hj1 q.symm, ?_⟩
        by_cases q : j + 1 = i
        · exact Or.inr (fun z => h2 ⟨q, z⟩)
        · exact Or.inl q
theorem sd_istore (C : ej_Cx p s m args meth c D cA a0 bs vZ L xs me) {i : Nat} {x : Int32} (hd : decode (ej_b me) pc = .ok (.istore i, 2)) (hi : i < ls.length) (k : ej_G p l e R s m args below meth c Q D cA a0 bs vZ L xs me z0 s0 (pc + 2) (ej_s1 ls i (.int x)) st M) : ej_G p l e R s m args below meth c Q D cA a0 bs vZ L xs me z0 s0 pc ls (.int x :: st) M :=
  fun H locs la hW hS hL hz hs => lv_istore C.1 C.2.1 hd (lc_has hL) (by rw [← hL.2.1]; exact hi) rfl (fun la' hl' => k H locs la' hW hS (lc_s1 C.2.2.2.2.2.1.2.2.2.2.2 hL (by rw [← hL.2.1]; exact hi) rfl hl') hz hs)
theorem sd_istore_n (C : ej_Cx p s m args meth c D cA a0 bs vZ L xs me) {n : Fin 4} {i : Nat} {x : Int32} (hd : decode (ej_b me) pc = .ok (.istore_n n, 1)) (hn : (n : Nat) = i) (hi : i < ls.length) (k : ej_G p l e R s m args below meth c Q D cA a0 bs vZ L xs me z0 s0 (pc + 1) (ej_s1 ls i (.int x)) st M) : ej_G p l e R s m args below meth c Q D cA a0 bs vZ L xs me z0 s0 pc ls (.int x :: st) M :=
  fun H locs la hW hS hL hz hs => lv_istore_n C.1 C.2.1 hd hn (lc_has hL) (by rw [← hL.2.1]; exact hi) rfl (fun la' hl' => k H locs la' hW hS (lc_s1 C.2.2.2.2.2.1.2.2.2.2.2 hL (by rw [← hL.2.1]; exact hi) rfl hl') hz hs)
theorem sd_lstore (C : ej_Cx p s m args meth c D cA a0 bs vZ L xs me) {i : Nat} {x : Int64} (hd : decode (ej_b me) pc = .ok (.lstore i, 2)) (hi : i + 1 < ls.length) (k : ej_G p l e R s m args below meth c Q D cA a0 bs vZ L xs me z0 s0 (pc + 2) (ej_s2 ls i (.long x)) st M) : ej_G p l e R s m args below meth c Q D cA a0 bs vZ L xs me z0 s0 pc ls (.long x :: st) M :=
  fun H locs la hW hS hL hz hs => lv_lstore C.1 C.2.1 hd (lc_has hL) (by rw [← hL.2.1]; exact hi) rfl (fun la' hl' => k H locs la' hW hS (lc_s2 C.2.2.2.2.2.1.2.2.2.2.2 hL (by rw [← hL.2.1]; exact hi) hl') hz hs)
theorem sd_lstore_n (C : ej_Cx p s m args meth c D cA a0 bs vZ L xs me) {n : Fin 4} {i : Nat} {x : Int64} (hd : decode (ej_b me) pc = .ok (.lstore_n n, 1)) (hn : (n : Nat) = i) (hi : i + 1 < ls.length) (k : ej_G p l e R s m args below meth c Q D cA a0 bs vZ L xs me z0 s0 (pc + 1) (ej_s2 ls i (.long x)) st M) : ej_G p l e R s m args below meth c Q D cA a0 bs vZ L xs me z0 s0 pc ls (.long x :: st) M :=
  fun H locs la hW hS hL hz hs => lv_lstore_n C.1 C.2.1 hd hn (lc_has hL) (by rw [← hL.2.1]; exact hi) rfl (fun la' hl' => k H locs la' hW hS (lc_s2 C.2.2.2.2.2.1.2.2.2.2.2 hL (by rw [← hL.2.1]; exact hi) hl') hz hs)
theorem sd_astore (C : ej_Cx p s m args meth c D cA a0 bs vZ L xs me) {i : Nat} {q : Option Nat} (hd : decode (ej_b me) pc = .ok (.astore i, 2)) (hi : i < ls.length) (k : ej_G p l e R s m args below meth c Q D cA a0 bs vZ L xs me z0 s0 (pc + 2) (ej_s1 ls i (va_rf q)) st M) : ej_G p l e R s m args below meth c Q D cA a0 bs vZ L xs me z0 s0 pc ls (va_rf q :: st) M := by
  intro H locs la hW hS hL hz hs
  have hn : i < ej_mx me := by rw [← hL.2.1]; exact hi
  have hv := C.2.2.2.2.2.1.2.2.2.2.2
  cases q with
  | none => exact lv_astoreN C.1 C.2.1 hd (lc_has hL) hn rfl (fun la' hl' => k H locs la' hW hS (lc_s1 hv hL hn rfl hl') hz hs)
  | some x => exact lv_astore C.1 C.2.1 hd (lc_has hL) hn rfl (fun la' hl' => k H locs la' hW hS (lc_s1 (v := .ref x) hv hL hn rfl hl') hz hs)
theorem sd_astore_n (C : ej_Cx p s m args meth c D cA a0 bs vZ L xs me) {n : Fin 4} {i : Nat} {q : Option Nat} (hd : decode (ej_b me) pc = .ok (.astore_n n, 1)) (he : (n : Nat) = i) (hi : i < ls.length) (k : ej_G p l e R s m args below meth c Q D cA a0 bs vZ L xs me z0 s0 (pc + 1) (ej_s1 ls i (va_rf q)) st M) : ej_G p l e R s m args below meth c Q D cA a0 bs vZ L xs me z0 s0 pc ls (va_rf q :: st) M := by
  intro H locs la hW hS hL hz hs
  have hn : i < ej_mx me := by rw [← hL.2.1]; exact hi
  have hv := C.2.2.2.2.2.1.2.2.2.2.2
  cases q with
  | none => exact lv_astore_nN C.1 C.2.1 hd he (lc_has hL) hn rfl (fun la' hl' => k H locs la' hW hS (lc_s1 hv hL hn rfl hl') hz hs)
  | some x => exact lv_astore_n C.1 C.2.1 hd he (lc_has hL) hn rfl (fun la' hl' => k H locs la' hW hS (lc_s1 (v := .ref x) hv hL hn rfl hl') hz hs)
theorem sd_iinc (C : ej_Cx p s m args meth c D cA a0 bs vZ L xs me) {i : Nat} {n : Int} {x v : Int32} (hd : decode (ej_b me) pc = .ok (.iinc i n, 3)) (h : ls.getD i none = some (.int x)) (hv : x + Int32.ofInt n = v) (k : ej_G p l e R s m args below meth c Q D cA a0 bs vZ L xs me z0 s0 (pc + 3) (ej_s1 ls i (.int v)) st M) : ej_G p l e R s m args below meth c Q D cA a0 bs vZ L xs me z0 s0 pc ls st M := by
  intro H locs la hW hS hL hz hs
  have hm : (i, Value.int x) ∈ ej_lv a0 bs vZ ls := lv_mem.mpr ⟨(List.getElem?_eq_some_iff.mp (gd_iff.mp h)).1, _, h, rfl⟩
  obtain ⟨kk, hkk⟩ := List.getElem?_of_mem hm
  have hn : i < ej_mx me := by rw [← hL.2.1]; exact (List.getElem?_eq_some_iff.mp (gd_iff.mp h)).1
  exact lv_iinc C.1 C.2.1 hd (lc_has hL) hkk hv hn rfl (fun la' hl' => k H locs la' hW hS (lc_s1 (v := .int v) C.2.2.2.2.2.1.2.2.2.2.2 hL hn rfl hl') hz hs)
-- arithmetic
theorem sd_iadd (C : ej_Cx p s m args meth c D cA a0 bs vZ L xs me) {x y : Int32} (hd : decode (ej_b me) pc = .ok (.iadd, 1)) (k : ej_G p l e R s m args below meth c Q D cA a0 bs vZ L xs me z0 s0 (pc + 1) ls (.int (x + y) :: st) M) : ej_G p l e R s m args below meth c Q D cA a0 bs vZ L xs me z0 s0 pc ls (.int y :: .int x :: st) M :=
  fun H locs la hW hS hL hz hs => lv_iadd C.1 C.2.1 hd (k H locs la hW hS hL hz hs)
theorem sd_isub (C : ej_Cx p s m args meth c D cA a0 bs vZ L xs me) {x y : Int32} (hd : decode (ej_b me) pc = .ok (.isub, 1)) (k : ej_G p l e R s m args below meth c Q D cA a0 bs vZ L xs me z0 s0 (pc + 1) ls (.int (x - y) :: st) M) : ej_G p l e R s m args below meth c Q D cA a0 bs vZ L xs me z0 s0 pc ls (.int y :: .int x :: st) M :=
  fun H locs la hW hS hL hz hs => lv_isub C.1 C.2.1 hd (k H locs la hW hS hL hz hs)
theorem sd_imul (C : ej_Cx p s m args meth c D cA a0 bs vZ L xs me) {x y : Int32} (hd : decode (ej_b me) pc = .ok (.imul, 1)) (k : ej_G p l e R s m args below meth c Q D cA a0 bs vZ L xs me z0 s0 (pc + 1) ls (.int (x * y) :: st) M) : ej_G p l e R s m args below meth c Q D cA a0 bs vZ L xs me z0 s0 pc ls (.int y :: .int x :: st) M :=
  fun H locs la hW hS hL hz hs => lv_imul C.1 C.2.1 hd (k H locs la hW hS hL hz hs)
theorem sd_iand (C : ej_Cx p s m args meth c D cA a0 bs vZ L xs me) {x y : Int32} (hd : decode (ej_b me) pc = .ok (.iand, 1)) (k : ej_G p l e R s m args below meth c Q D cA a0 bs vZ L xs me z0 s0 (pc + 1) ls (.int (x &&& y) :: st) M) : ej_G p l e R s m args below meth c Q D cA a0 bs vZ L xs me z0 s0 pc ls (.int y :: .int x :: st) M :=
  fun H locs la hW hS hL hz hs => lv_iand C.1 C.2.1 hd (k H locs la hW hS hL hz hs)
theorem sd_ior (C : ej_Cx p s m args meth c D cA a0 bs vZ L xs me) {x y : Int32} (hd : decode (ej_b me) pc = .ok (.ior, 1)) (k : ej_G p l e R s m args below meth c Q D cA a0 bs vZ L xs me z0 s0 (pc + 1) ls (.int (x ||| y) :: st) M) : ej_G p l e R s m args below meth c Q D cA a0 bs vZ L xs me z0 s0 pc ls (.int y :: .int x :: st) M :=
  fun H locs la hW hS hL hz hs => lv_ior C.1 C.2.1 hd (k H locs la hW hS hL hz hs)
theorem sd_ixor (C : ej_Cx p s m args meth c D cA a0 bs vZ L xs me) {x y : Int32} (hd : decode (ej_b me) pc = .ok (.ixor, 1)) (k : ej_G p l e R s m args below meth c Q D cA a0 bs vZ L xs me z0 s0 (pc + 1) ls (.int (x ^^^ y) :: st) M) : ej_G p l e R s m args below meth c Q D cA a0 bs vZ L xs me z0 s0 pc ls (.int y :: .int x :: st) M :=
  fun H locs la hW hS hL hz hs => lv_ixor C.1 C.2.1 hd (k H locs la hW hS hL hz hs)
theorem sd_ishl (C : ej_Cx p s m args meth c D cA a0 bs vZ L xs me) {x y : Int32} (hd : decode (ej_b me) pc = .ok (.ishl, 1)) (k : ej_G p l e R s m args below meth c Q D cA a0 bs vZ L xs me z0 s0 (pc + 1) ls (.int (x <<< (y &&& 31)) :: st) M) : ej_G p l e R s m args below meth c Q D cA a0 bs vZ L xs me z0 s0 pc ls (.int y :: .int x :: st) M :=
  fun H locs la hW hS hL hz hs => lv_ishl C.1 C.2.1 hd (k H locs la hW hS hL hz hs)
theorem sd_ishr (C : ej_Cx p s m args meth c D cA a0 bs vZ L xs me) {x y : Int32} (hd : decode (ej_b me) pc = .ok (.ishr, 1)) (k : ej_G p l e R s m args below meth c Q D cA a0 bs vZ L xs me z0 s0 (pc + 1) ls (.int (x >>> (y &&& 31)) :: st) M) : ej_G p l e R s m args below meth c Q D cA a0 bs vZ L xs me z0 s0 pc ls (.int y :: .int x :: st) M :=
  fun H locs la hW hS hL hz hs => lv_ishr C.1 C.2.1 hd (k H locs la hW hS hL hz hs)
theorem sd_land (C : ej_Cx p s m args meth c D cA a0 bs vZ L xs me) {x y : Int64} (hd : decode (ej_b me) pc = .ok (.land, 1)) (k : ej_G p l e R s m args below meth c Q D cA a0 bs vZ L xs me z0 s0 (pc + 1) ls (.long (x &&& y) :: st) M) : ej_G p l e R s m args below meth c Q D cA a0 bs vZ L xs me z0 s0 pc ls (.long y :: .long x :: st) M :=
  fun H locs la hW hS hL hz hs => lv_land C.1 C.2.1 hd (k H locs la hW hS hL hz hs)
theorem sd_lor (C : ej_Cx p s m args meth c D cA a0 bs vZ L xs me) {x y : Int64} (hd : decode (ej_b me) pc = .ok (.lor, 1)) (k : ej_G p l e R s m args below meth c Q D cA a0 bs vZ L xs me z0 s0 (pc + 1) ls (.long (x ||| y) :: st) M) : ej_G p l e R s m args below meth c Q D cA a0 bs vZ L xs me z0 s0 pc ls (.long y :: .long x :: st) M :=
  fun H locs la hW hS hL hz hs => lv_lor C.1 C.2.1 hd (k H locs la hW hS hL hz hs)
theorem sd_lxor (C : ej_Cx p s m args meth c D cA a0 bs vZ L xs me) {x y : Int64} (hd : decode (ej_b me) pc = .ok (.lxor, 1)) (k : ej_G p l e R s m args below meth c Q D cA a0 bs vZ L xs me z0 s0 (pc + 1) ls (.long (x ^^^ y) :: st) M) : ej_G p l e R s m args below meth c Q D cA a0 bs vZ L xs me z0 s0 pc ls (.long y :: .long x :: st) M :=
  fun H locs la hW hS hL hz hs => lv_lxor C.1 C.2.1 hd (k H locs la hW hS hL hz hs)
theorem sd_lsub (C : ej_Cx p s m args meth c D cA a0 bs vZ L xs me) {x y : Int64} (hd : decode (ej_b me) pc = .ok (.lsub, 1)) (k : ej_G p l e R s m args below meth c Q D cA a0 bs vZ L xs me z0 s0 (pc + 1) ls (.long (x - y) :: st) M) : ej_G p l e R s m args below meth c Q D cA a0 bs vZ L xs me z0 s0 pc ls (.long y :: .long x :: st) M :=
  fun H locs la hW hS hL hz hs => lv_lsub C.1 C.2.1 hd (k H locs la hW hS hL hz hs)
theorem sd_idiv (C : ej_Cx p s m args meth c D cA a0 bs vZ L xs me) {x y : Int32} (hd : decode (ej_b me) pc = .ok (.idiv, 1)) (h : ¬ y = 0) (k : ej_G p l e R s m args below meth c Q D cA a0 bs vZ L xs me z0 s0 (pc + 1) ls (.int (x / y) :: st) M) : ej_G p l e R s m args below meth c Q D cA a0 bs vZ L xs me z0 s0 pc ls (.int y :: .int x :: st) M :=
  fun H locs la hW hS hL hz hs => lv_idiv C.1 C.2.1 hd h (k H locs la hW hS hL hz hs)
theorem sd_irem (C : ej_Cx p s m args meth c D cA a0 bs vZ L xs me) {x y : Int32} (hd : decode (ej_b me) pc = .ok (.irem, 1)) (h : ¬ y = 0) (k : ej_G p l e R s m args below meth c Q D cA a0 bs vZ L xs me z0 s0 (pc + 1) ls (.int (x - x / y * y) :: st) M) : ej_G p l e R s m args below meth c Q D cA a0 bs vZ L xs me z0 s0 pc ls (.int y :: .int x :: st) M :=
  fun H locs la hW hS hL hz hs => lv_irem C.1 C.2.1 hd h (k H locs la hW hS hL hz hs)
theorem sd_iushr (C : ej_Cx p s m args meth c D cA a0 bs vZ L xs me) {x y : Int32} (hd : decode (ej_b me) pc = .ok (.iushr, 1)) (k : ej_G p l e R s m args below meth c Q D cA a0 bs vZ L xs me z0 s0 (pc + 1) ls (.int (ej_bin 8 x y) :: st) M) : ej_G p l e R s m args below meth c Q D cA a0 bs vZ L xs me z0 s0 pc ls (.int y :: .int x :: st) M :=
  fun H locs la hW hS hL hz hs => lv_iushr C.1 C.2.1 hd rfl (k H locs la hW hS hL hz hs)
theorem sd_lshl (C : ej_Cx p s m args meth c D cA a0 bs vZ L xs me) {x : Int64} {y : Int32} (hd : decode (ej_b me) pc = .ok (.lshl, 1)) (k : ej_G p l e R s m args below meth c Q D cA a0 bs vZ L xs me z0 s0 (pc + 1) ls (.long (ej_ls 0 x y) :: st) M) : ej_G p l e R s m args below meth c Q D cA a0 bs vZ L xs me z0 s0 pc ls (.int y :: .long x :: st) M :=
  fun H locs la hW hS hL hz hs => lv_lshl C.1 C.2.1 hd rfl (k H locs la hW hS hL hz hs)
theorem sd_lshr (C : ej_Cx p s m args meth c D cA a0 bs vZ L xs me) {x : Int64} {y : Int32} (hd : decode (ej_b me) pc = .ok (.lshr, 1)) (k : ej_G p l e R s m args below meth c Q D cA a0 bs vZ L xs me z0 s0 (pc + 1) ls (.long (ej_ls 1 x y) :: st) M) : ej_G p l e R s m args below meth c Q D cA a0 bs vZ L xs me z0 s0 pc ls (.int y :: .long x :: st) M :=
  fun H locs la hW hS hL hz hs => lv_lshr C.1 C.2.1 hd rfl (k H locs la hW hS hL hz hs)
theorem sd_i2l (C : ej_Cx p s m args meth c D cA a0 bs vZ L xs me) {x : Int32} (hd : decode (ej_b me) pc = .ok (.i2l, 1)) (k : ej_G p l e R s m args below meth c Q D cA a0 bs vZ L xs me z0 s0 (pc + 1) ls (.long x.toInt64 :: st) M) : ej_G p l e R s m args below meth c Q D cA a0 bs vZ L xs me z0 s0 pc ls (.int x :: st) M :=
  fun H locs la hW hS hL hz hs => lv_i2l C.1 C.2.1 hd rfl (k H locs la hW hS hL hz hs)
theorem sd_i2b (C : ej_Cx p s m args meth c D cA a0 bs vZ L xs me) {x : Int32} (hd : decode (ej_b me) pc = .ok (.i2b, 1)) (k : ej_G p l e R s m args below meth c Q D cA a0 bs vZ L xs me z0 s0 (pc + 1) ls (.int x.toInt8.toInt32 :: st) M) : ej_G p l e R s m args below meth c Q D cA a0 bs vZ L xs me z0 s0 pc ls (.int x :: st) M :=
  fun H locs la hW hS hL hz hs => lv_i2b C.1 C.2.1 hd rfl (k H locs la hW hS hL hz hs)
theorem sd_i2c (C : ej_Cx p s m args meth c D cA a0 bs vZ L xs me) {x : Int32} (hd : decode (ej_b me) pc = .ok (.i2c, 1)) (k : ej_G p l e R s m args below meth c Q D cA a0 bs vZ L xs me z0 s0 (pc + 1) ls (.int (x.toUInt32 % 65536).toInt32 :: st) M) : ej_G p l e R s m args below meth c Q D cA a0 bs vZ L xs me z0 s0 pc ls (.int x :: st) M :=
  fun H locs la hW hS hL hz hs => lv_i2c C.1 C.2.1 hd rfl (k H locs la hW hS hL hz hs)
theorem sd_lcmp (C : ej_Cx p s m args meth c D cA a0 bs vZ L xs me) {x y : Int64} (hd : decode (ej_b me) pc = .ok (.lcmp, 1)) (k : ej_G p l e R s m args below meth c Q D cA a0 bs vZ L xs me z0 s0 (pc + 1) ls (.int (lg_cmp x y) :: st) M) : ej_G p l e R s m args below meth c Q D cA a0 bs vZ L xs me z0 s0 pc ls (.long y :: .long x :: st) M :=
  fun H locs la hW hS hL hz hs => W.lcmp C.1 C.2.1 hd (k H locs la hW hS hL hz hs)
theorem sd_dup (C : ej_Cx p s m args meth c D cA a0 bs vZ L xs me) {v : Value} (hd : decode (ej_b me) pc = .ok (.dup, 1)) (hv : v.category = 1) (k : ej_G p l e R s m args below meth c Q D cA a0 bs vZ L xs me z0 s0 (pc + 1) ls (v :: v :: st) M) : ej_G p l e R s m args below meth c Q D cA a0 bs vZ L xs me z0 s0 pc ls (v :: st) M :=
  fun H locs la hW hS hL hz hs => lv_dup C.1 C.2.1 hd ((tr_cat C.2.2.2.2.2.1.2.2.2.2.2 v).trans hv) (k H locs la hW hS hL hz hs)
theorem sd_dup2 (C : ej_Cx p s m args meth c D cA a0 bs vZ L xs me) {v w : Value} (hd : decode (ej_b me) pc = .ok (.dup2, 1)) (hv : v.category = 1) (hw : w.category = 1) (k : ej_G p l e R s m args below meth c Q D cA a0 bs vZ L xs me z0 s0 (pc + 1) ls (v :: w :: v :: w :: st) M) : ej_G p l e R s m args below meth c Q D cA a0 bs vZ L xs me z0 s0 pc ls (v :: w :: st) M :=
  fun H locs la hW hS hL hz hs => lv_dup2_11 C.1 C.2.1 hd ((tr_cat C.2.2.2.2.2.1.2.2.2.2.2 v).trans hv) ((tr_cat C.2.2.2.2.2.1.2.2.2.2.2 w).trans hw) (k H locs la hW hS hL hz hs)
theorem sd_pop (C : ej_Cx p s m args meth c D cA a0 bs vZ L xs me) {v : Value} (hd : decode (ej_b me) pc = .ok (.pop, 1)) (hv : v.category = 1) (k : ej_G p l e R s m args below meth c Q D cA a0 bs vZ L xs me z0 s0 (pc + 1) ls st M) : ej_G p l e R s m args below meth c Q D cA a0 bs vZ L xs me z0 s0 pc ls (v :: st) M :=
  fun H locs la hW hS hL hz hs => lv_pop C.1 C.2.1 hd ((tr_cat C.2.2.2.2.2.1.2.2.2.2.2 v).trans hv) (k H locs la hW hS hL hz hs)
-- branches
theorem sd_goto (C : ej_Cx p s m args meth c D cA a0 bs vZ L xs me) {off : Int} {tgt : Nat} (hd : decode (ej_b me) pc = .ok (.goto off, 3)) (ht : (pc : Int) + off = (tgt : Int)) (k : ej_G p l e R s m args below meth c Q D cA a0 bs vZ L xs me z0 s0 tgt ls st M) : ej_G p l e R s m args below meth c Q D cA a0 bs vZ L xs me z0 s0 pc ls st M :=
  fun H locs la hW hS hL hz hs => lv_goto C.1 C.2.1 hd ht (k H locs la hW hS hL hz hs)
theorem sd_if_eq (C : ej_Cx p s m args meth c D cA a0 bs vZ L xs me) {x : Int32} {off : Int} {tgt : Nat} (hd : decode (ej_b me) pc = .ok (.ifCond .eq off, 3)) (ht : (pc : Int) + off = (tgt : Int)) (kt : x = 0 → ej_G p l e R s m args below meth c Q D cA a0 bs vZ L xs me z0 s0 tgt ls st M) (kf : ¬ x = 0 → ej_G p l e R s m args below meth c Q D cA a0 bs vZ L xs me z0 s0 (pc + 3) ls st M) : ej_G p l e R s m args below meth c Q D cA a0 bs vZ L xs me z0 s0 pc ls (.int x :: st) M :=
  fun H locs la hW hS hL hz hs => lv_if_eq C.1 C.2.1 hd ht (fun q => kt q H locs la hW hS hL hz hs) (fun q => kf q H locs la hW hS hL hz hs)
theorem sd_icmp_eq (C : ej_Cx p s m args meth c D cA a0 bs vZ L xs me) {x y : Int32} {off : Int} {tgt : Nat} (hd : decode (ej_b me) pc = .ok (.if_icmp .eq off, 3)) (ht : (pc : Int) + off = (tgt : Int)) (kt : x = y → ej_G p l e R s m args below meth c Q D cA a0 bs vZ L xs me z0 s0 tgt ls st M) (kf : ¬ x = y → ej_G p l e R s m args below meth c Q D cA a0 bs vZ L xs me z0 s0 (pc + 3) ls st M) : ej_G p l e R s m args below meth c Q D cA a0 bs vZ L xs me z0 s0 pc ls (.int y :: .int x :: st) M :=
  fun H locs la hW hS hL hz hs => lv_icmp_eq C.1 C.2.1 hd ht (fun q => kt q H locs la hW hS hL hz hs) (fun q => kf q H locs la hW hS hL hz hs)
theorem sd_if_ne (C : ej_Cx p s m args meth c D cA a0 bs vZ L xs me) {x : Int32} {off : Int} {tgt : Nat} (hd : decode (ej_b me) pc = .ok (.ifCond .ne off, 3)) (ht : (pc : Int) + off = (tgt : Int)) (kt : ¬ x = 0 → ej_G p l e R s m args below meth c Q D cA a0 bs vZ L xs me z0 s0 tgt ls st M) (kf : x = 0 → ej_G p l e R s m args below meth c Q D cA a0 bs vZ L xs me z0 s0 (pc + 3) ls st M) : ej_G p l e R s m args below meth c Q D cA a0 bs vZ L xs me z0 s0 pc ls (.int x :: st) M :=
  fun H locs la hW hS hL hz hs => lv_if_ne C.1 C.2.1 hd ht (fun q => kt q H locs la hW hS hL hz hs) (fun q => kf q H locs la hW hS hL hz hs)
theorem sd_icmp_ne (C : ej_Cx p s m args meth c D cA a0 bs vZ L xs me) {x y : Int32} {off : Int} {tgt : Nat} (hd : decode (ej_b me) pc = .ok (.if_icmp .ne off, 3)) (ht : (pc : Int) + off = (tgt : Int)) (kt : ¬ x = y → ej_G p l e R s m args below meth c Q D cA a0 bs vZ L xs me z0 s0 tgt ls st M) (kf : x = y → ej_G p l e R s m args below meth c Q D cA a0 bs vZ L xs me z0 s0 (pc + 3) ls st M) : ej_G p l e R s m args below meth c Q D cA a0 bs vZ L xs me z0 s0 pc ls (.int y :: .int x :: st) M :=
  fun H locs la hW hS hL hz hs => lv_icmp_ne C.1 C.2.1 hd ht (fun q => kt q H locs la hW hS hL hz hs) (fun q => kf q H locs la hW hS hL hz hs)
theorem sd_if_lt (C : ej_Cx p s m args meth c D cA a0 bs vZ L xs me) {x : Int32} {off : Int} {tgt : Nat} (hd : decode (ej_b me) pc = .ok (.ifCond .lt off, 3)) (ht : (pc : Int) + off = (tgt : Int)) (kt : x < 0 → ej_G p l e R s m args below meth c Q D cA a0 bs vZ L xs me z0 s0 tgt ls st M) (kf : ¬ x < 0 → ej_G p l e R s m args below meth c Q D cA a0 bs vZ L xs me z0 s0 (pc + 3) ls st M) : ej_G p l e R s m args below meth c Q D cA a0 bs vZ L xs me z0 s0 pc ls (.int x :: st) M :=
  fun H locs la hW hS hL hz hs => lv_if_lt C.1 C.2.1 hd ht (fun q => kt q H locs la hW hS hL hz hs) (fun q => kf q H locs la hW hS hL hz hs)
theorem sd_icmp_lt (C : ej_Cx p s m args meth c D cA a0 bs vZ L xs me) {x y : Int32} {off : Int} {tgt : Nat} (hd : decode (ej_b me) pc = .ok (.if_icmp .lt off, 3)) (ht : (pc : Int) + off = (tgt : Int)) (kt : x < y → ej_G p l e R s m args below meth c Q D cA a0 bs vZ L xs me z0 s0 tgt ls st M) (kf : ¬ x < y → ej_G p l e R s m args below meth c Q D cA a0 bs vZ L xs me z0 s0 (pc + 3) ls st M) : ej_G p l e R s m args below meth c Q D cA a0 bs vZ L xs me z0 s0 pc ls (.int y :: .int x :: st) M :=
  fun H locs la hW hS hL hz hs => lv_icmp_lt C.1 C.2.1 hd ht (fun q => kt q H locs la hW hS hL hz hs) (fun q => kf q H locs la hW hS hL hz hs)
theorem sd_if_ge (C : ej_Cx p s m args meth c D cA a0 bs vZ L xs me) {x : Int32} {off : Int} {tgt : Nat} (hd : decode (ej_b me) pc = .ok (.ifCond .ge off, 3)) (ht : (pc : Int) + off = (tgt : Int)) (kt : 0 ≤ x → ej_G p l e R s m args below meth c Q D cA a0 bs vZ L xs me z0 s0 tgt ls st M) (kf : ¬ 0 ≤ x → ej_G p l e R s m args below meth c Q D cA a0 bs vZ L xs me z0 s0 (pc + 3) ls st M) : ej_G p l e R s m args below meth c Q D cA a0 bs vZ L xs me z0 s0 pc ls (.int x :: st) M :=
  fun H locs la hW hS hL hz hs => lv_if_ge C.1 C.2.1 hd ht (fun q => kt q H locs la hW hS hL hz hs) (fun q => kf q H locs la hW hS hL hz hs)
theorem sd_icmp_ge (C : ej_Cx p s m args meth c D cA a0 bs vZ L xs me) {x y : Int32} {off : Int} {tgt : Nat} (hd : decode (ej_b me) pc = .ok (.if_icmp .ge off, 3)) (ht : (pc : Int) + off = (tgt : Int)) (kt : y ≤ x → ej_G p l e R s m args below meth c Q D cA a0 bs vZ L xs me z0 s0 tgt ls st M) (kf : ¬ y ≤ x → ej_G p l e R s m args below meth c Q D cA a0 bs vZ L xs me z0 s0 (pc + 3) ls st M) : ej_G p l e R s m args below meth c Q D cA a0 bs vZ L xs me z0 s0 pc ls (.int y :: .int x :: st) M :=
  fun H locs la hW hS hL hz hs => lv_icmp_ge C.1 C.2.1 hd ht (fun q => kt q H locs la hW hS hL hz hs) (fun q => kf q H locs la hW hS hL hz hs)
theorem sd_if_gt (C : ej_Cx p s m args meth c D cA a0 bs vZ L xs me) {x : Int32} {off : Int} {tgt : Nat} (hd : decode (ej_b me) pc = .ok (.ifCond .gt off, 3)) (ht : (pc : Int) + off = (tgt : Int)) (kt : 0 < x → ej_G p l e R s m args below meth c Q D cA a0 bs vZ L xs me z0 s0 tgt ls st M) (kf : ¬ 0 < x → ej_G p l e R s m args below meth c Q D cA a0 bs vZ L xs me z0 s0 (pc + 3) ls st M) : ej_G p l e R s m args below meth c Q D cA a0 bs vZ L xs me z0 s0 pc ls (.int x :: st) M :=
  fun H locs la hW hS hL hz hs => lv_if_gt C.1 C.2.1 hd ht (fun q => kt q H locs la hW hS hL hz hs) (fun q => kf q H locs la hW hS hL hz hs)
theorem sd_icmp_gt (C : ej_Cx p s m args meth c D cA a0 bs vZ L xs me) {x y : Int32} {off : Int} {tgt : Nat} (hd : decode (ej_b me) pc = .ok (.if_icmp .gt off, 3)) (ht : (pc : Int) + off = (tgt : Int)) (kt : y < x → ej_G p l e R s m args below meth c Q D cA a0 bs vZ L xs me z0 s0 tgt ls st M) (kf : ¬ y < x → ej_G p l e R s m args below meth c Q D cA a0 bs vZ L xs me z0 s0 (pc + 3) ls st M) : ej_G p l e R s m args below meth c Q D cA a0 bs vZ L xs me z0 s0 pc ls (.int y :: .int x :: st) M :=
  fun H locs la hW hS hL hz hs => lv_icmp_gt C.1 C.2.1 hd ht (fun q => kt q H locs la hW hS hL hz hs) (fun q => kf q H locs la hW hS hL hz hs)
theorem sd_if_le (C : ej_Cx p s m args meth c D cA a0 bs vZ L xs me) {x : Int32} {off : Int} {tgt : Nat} (hd : decode (ej_b me) pc = .ok (.ifCond .le off, 3)) (ht : (pc : Int) + off = (tgt : Int)) (kt : x ≤ 0 → ej_G p l e R s m args below meth c Q D cA a0 bs vZ L xs me z0 s0 tgt ls st M) (kf : ¬ x ≤ 0 → ej_G p l e R s m args below meth c Q D cA a0 bs vZ L xs me z0 s0 (pc + 3) ls st M) : ej_G p l e R s m args below meth c Q D cA a0 bs vZ L xs me z0 s0 pc ls (.int x :: st) M :=
  fun H locs la hW hS hL hz hs => lv_if_le C.1 C.2.1 hd ht (fun q => kt q H locs la hW hS hL hz hs) (fun q => kf q H locs la hW hS hL hz hs)
theorem sd_icmp_le (C : ej_Cx p s m args meth c D cA a0 bs vZ L xs me) {x y : Int32} {off : Int} {tgt : Nat} (hd : decode (ej_b me) pc = .ok (.if_icmp .le off, 3)) (ht : (pc : Int) + off = (tgt : Int)) (kt : x ≤ y → ej_G p l e R s m args below meth c Q D cA a0 bs vZ L xs me z0 s0 tgt ls st M) (kf : ¬ x ≤ y → ej_G p l e R s m args below meth c Q D cA a0 bs vZ L xs me z0 s0 (pc + 3) ls st M) : ej_G p l e R s m args below meth c Q D cA a0 bs vZ L xs me z0 s0 pc ls (.int y :: .int x :: st) M :=
  fun H locs la hW hS hL hz hs => lv_icmp_le C.1 C.2.1 hd ht (fun q => kt q H locs la hW hS hL hz hs) (fun q => kf q H locs la hW hS hL hz hs)
theorem sd_ifnull0 (C : ej_Cx p s m args meth c D cA a0 bs vZ L xs me) {off : Int} {tgt : Nat} (hd : decode (ej_b me) pc = .ok (.ifnull off, 3)) (ht : (pc : Int) + off = (tgt : Int)) (k : ej_G p l e R s m args below meth c Q D cA a0 bs vZ L xs me z0 s0 tgt ls st M) : ej_G p l e R s m args below meth c Q D cA a0 bs vZ L xs me z0 s0 pc ls (.null :: st) M :=
  fun H locs la hW hS hL hz hs => lv_ifnullN C.1 C.2.1 hd ht (k H locs la hW hS hL hz hs)
theorem sd_ifnull1 (C : ej_Cx p s m args meth c D cA a0 bs vZ L xs me) {off : Int} {x : Nat} (hd : decode (ej_b me) pc = .ok (.ifnull off, 3)) (k : ej_G p l e R s m args below meth c Q D cA a0 bs vZ L xs me z0 s0 (pc + 3) ls st M) : ej_G p l e R s m args below meth c Q D cA a0 bs vZ L xs me z0 s0 pc ls (.ref x :: st) M :=
  fun H locs la hW hS hL hz hs => lv_ifnull C.1 C.2.1 hd (k H locs la hW hS hL hz hs)
theorem sd_ifnonnull0 (C : ej_Cx p s m args meth c D cA a0 bs vZ L xs me) {off : Int} (hd : decode (ej_b me) pc = .ok (.ifnonnull off, 3)) (k : ej_G p l e R s m args below meth c Q D cA a0 bs vZ L xs me z0 s0 (pc + 3) ls st M) : ej_G p l e R s m args below meth c Q D cA a0 bs vZ L xs me z0 s0 pc ls (.null :: st) M :=
  fun H locs la hW hS hL hz hs => lv_ifnonnullN C.1 C.2.1 hd (k H locs la hW hS hL hz hs)
theorem sd_ifnonnull1 (C : ej_Cx p s m args meth c D cA a0 bs vZ L xs me) {off : Int} {tgt x : Nat} (hd : decode (ej_b me) pc = .ok (.ifnonnull off, 3)) (ht : (pc : Int) + off = (tgt : Int)) (k : ej_G p l e R s m args below meth c Q D cA a0 bs vZ L xs me z0 s0 tgt ls st M) : ej_G p l e R s m args below meth c Q D cA a0 bs vZ L xs me z0 s0 pc ls (.ref x :: st) M :=
  fun H locs la hW hS hL hz hs => lv_ifnonnull C.1 C.2.1 hd ht (k H locs la hW hS hL hz hs)
theorem sd_tableOut (C : ej_Cx p s m args meth c D cA a0 bs vZ L xs me) {df lo hi : Int} {offs : Array Int} {len tgt : Nat} {x : Int32} (hd : decode (ej_b me) pc = .ok (.tableswitch df lo hi offs, len)) (h : x.toInt < lo ∨ hi < x.toInt) (ht : (pc : Int) + df = (tgt : Int)) (k : ej_G p l e R s m args below meth c Q D cA a0 bs vZ L xs me z0 s0 tgt ls st M) : ej_G p l e R s m args below meth c Q D cA a0 bs vZ L xs me z0 s0 pc ls (.int x :: st) M :=
  fun H locs la hW hS hL hz hs => lv_tableOut C.1 C.2.1 hd h ht (k H locs la hW hS hL hz hs)
theorem sd_tableIn (C : ej_Cx p s m args meth c D cA a0 bs vZ L xs me) {df lo hi off : Int} {offs : Array Int} {len tgt : Nat} {x : Int32} (hd : decode (ej_b me) pc = .ok (.tableswitch df lo hi offs, len)) (h1 : ¬ x.toInt < lo) (h2 : ¬ hi < x.toInt) (ho : offs[(x.toInt - lo).toNat]? = some off) (ht : (pc : Int) + off = (tgt : Int)) (k : ej_G p l e R s m args below meth c Q D cA a0 bs vZ L xs me z0 s0 tgt ls st M) : ej_G p l e R s m args below meth c Q D cA a0 bs vZ L xs me z0 s0 pc ls (.int x :: st) M :=
  fun H locs la hW hS hL hz hs => lv_tableIn C.1 C.2.1 hd h1 h2 ho ht (k H locs la hW hS hL hz hs)
-- fields
theorem fs_get {o cc k : Nat} (hk : k < NN cc) : (ej_fs a0 bs M o cc)[k]? = some (ej_fv a0 bs M o cc k) := by simp [ej_fs, hk]
theorem ce_obj {o cc : Nat} (hc : mC M o = cc) (h : cc < 10) : ej_ce cA a0 bs M o = .inr (cc, ej_fs a0 bs M o cc) := by simp [ej_ce, hc, h]
theorem tr_rf (q : Option Nat) : ej_tr a0 bs vZ (va_rf q) = va_rf (q.map (ej_ad a0 bs)) := by cases q <;> rfl
theorem tr_ref (o : Nat) : ej_tr a0 bs vZ (.ref o) = .ref (ej_ad a0 bs o) := rfl
theorem sd_get (C : ej_Cx p s m args meth c D cA a0 bs vZ L xs me) {ix cc k o : Nat} {v : Value} (hd : decode (ej_b me) pc = .ok (.getfield ix, 3)) (hw : hasF (ej_own me) ix cc k = true) (ho : mC M o = cc) (hv : ej_fv a0 bs M o cc k = ej_tr a0 bs vZ v) (kk : ej_G p l e R s m args below meth c Q D cA a0 bs vZ L xs me z0 s0 (pc + 3) ls (v :: st) M) : ej_G p l e R s m args below meth c Q D cA a0 bs vZ L xs me z0 s0 pc ls (.ref o :: st) M := by
  intro H locs la hW hS hL hz hs
  obtain ⟨hl, hc, hk⟩ := hasF_ok hw
  obtain ⟨h59, hlt⟩ := wp_id hW ho (Or.inl hc)
  have hg := w_get (cA := cA) (a0 := a0) (bs := bs) h59 hlt
  rw [ce_obj ho hc] at hg
  have hkk := kk H locs la hW hS hL hz hs
  exact va_get C.1 C.2.1 C.2.2.2.2.1 (lay_in hc) C.2.2.2.1 C.2.2.2.2.2.1.1 hW.1 _ hg (vw_at hc) k hk (C.2.2.2.2.1 _ hl) (fun x hx => by rw [← fow_ok cc hc k hk]; exact hx) ((fs_get hk).trans (by rw [hv])) hd hkk
theorem wp_next {M' : ej_Mem} {H H1 : Heap} {locs1 : List Loc} (hW : ej_WP D cA a0 bs L xs M H) (hz : mZ M' = mZ M) (hC : mC M' = mC M) (hCM : ej_CM M M') (hP : va_P D ej_vw (ej_w cA a0 bs M') H1) (hH : H1.size = H.size) : ej_WP D cA a0 bs L xs M' H1 := by
  obtain ⟨-, h2, h3, h4, h5, h6⟩ := hW
  refine ⟨hP, by rw [hH, h2, hz], by rw [hz]; exact h3, fun i hi => ?_, fun i hi => by rw [hC]; exact h5 i (by rw [← hz]; exact hi), fun i h1 h2 => by rw [hC]; exact h6 i h1 (by rw [← hz]; exact h2)⟩
  obtain ⟨a1, a2, a3, a4, a5⟩ := h4 i hi
  obtain ⟨b1, b2, b3, b4, b5⟩ := hCM i hi
  exact ⟨b1.trans a1, b2.trans a2, b3.trans a3, b4.trans a4, b5.trans a5⟩
theorem cm_of {M' : ej_Mem} {o : Nat} (ho : 59 ≤ o) (h : ∀ i, i ≠ o → mC M' i = mC M i ∧ mN M' i = mN M i ∧ mI M' i = mI M i ∧ mR M' i = mR M i ∧ aI M' i = aI M i) : ej_CM M M' := fun i hi => h i (by omega)
theorem w_ad {o : Nat} (ho : 59 ≤ o) : ej_A bs (ej_ad a0 bs o) := by
  have : ¬ o < 59 := by omega
  simp [ej_A, ej_ad, this]
set_option maxHeartbeats 1000000 in
theorem sd_put (C : ej_Cx p s m args meth c D cA a0 bs vZ L xs me) {ix cc k o : Nat} {v : Value} {M' : ej_Mem} (hd : decode (ej_b me) pc = .ok (.putfield ix, 3)) (hw : hasF (ej_own me) ix cc k = true) (hfin : (TT cc k).2.2.2 = false ∨ ((ej_y me).name = "<init>" ∧ cc = ej_own me ∧ (TT cc k).2.2.2 = true)) (ho : mC M o = cc) (hn : narrow (fty cc k) (ej_tr a0 bs vZ v) = ej_tr a0 bs vZ v) (hfit : fits (fty cc k) (ej_tr a0 bs vZ v) = true) (hz' : mZ M' = mZ M) (hs' : mS M' = mS M) (hC : mC M' = mC M) (hCM : ej_CM M M')
    (hce : ej_ce cA a0 bs M' o = .inr (cc, (ej_fs a0 bs M o cc).set k (ej_tr a0 bs vZ v))) (hne : ∀ i, i ≠ o → ej_ce cA a0 bs M' i = ej_ce cA a0 bs M i) (kk : ej_G p l e R s m args below meth c Q D cA a0 bs vZ L xs me z0 s0 (pc + 3) ls st M') : ej_G p l e R s m args below meth c Q D cA a0 bs vZ L xs me z0 s0 pc ls (v :: .ref o :: st) M := by
  intro H locs la hW hS hL hz hs
  obtain ⟨hl, hc, hk⟩ := hasF_ok hw
  obtain ⟨h59, hlt⟩ := wp_id hW ho (Or.inl hc)
  have hg := w_get (cA := cA) (a0 := a0) (bs := bs) h59 hlt
  rw [ce_obj ho hc] at hg
  have hts := C.2.2.2.2.1
  have hK := C.2.2.2.2.2.1.1
  have hown := C.2.2.2.1
  have hap := va_apart (own := ej_cn (ej_own me)) hts (lay_in hc) (fty cc) (fun k hk => fty_ok cc hc k hk) (fun a ha b hb => fnm_ok cc hc a ha b hb) hK (vw_at hc)
  obtain ⟨r, h1, cell, q1, q2, q3, q4⟩ := hW.1 _ _ hg
  have hr : r = (ej_cn cc, TT cc, NN cc) := Option.some.inj (h1.symm.trans (vw_at hc))
  subst hr
  obtain ⟨hSl, hfc, kC, hkC, hkind⟩ := hK.1 cc _ (vw_at hc)
  obtain ⟨cf, kf, fi, f, hi, hsl⟩ := hSl k hk
  have hst := (u_facts hfc hkC (u_lays hts (lay_in hc) hk) hi).1
  have hsame : s.fieldFound? (ej_cn cc) (TT cc k).2.1 (TT cc k).2.2.1 = some (cf, kf, fi, f) := by rw [← fow_ok cc hc k hk]; exact hi
  have fin : ∀ H' : Heap, H'[ej_ad a0 bs o]? = some (cell.setSlot f.slot (ej_tr a0 bs vZ v)) → H'.size = H.size → (∀ q, q ≠ ej_ad a0 bs o → H'[q]? = H[q]?) → W p l e R s m args below meth c H' (locs ++ [⟨ej_ad a0 bs o, f.slot⟩]) (mZ M - z0) (mS M - s0) Q (F0 m (pc + 3) la (st.map (ej_tr a0 bs vZ))) := by
    intro H' e1 e2 e3
    have e1' := e1
    rw [hsl] at e1'
    have hat : va_at D ej_vw (ej_ad a0 bs o, .inr (cc, (ej_fs a0 bs M o cc).set k (ej_tr a0 bs vZ v))) H' := ⟨_, vw_at hc, t_OB.to (V := updV (vp_V (ej_fs a0 bs M o cc)) k (ej_tr a0 bs vZ v)) ⟨_, e1', q2, q3, t_set q4 hap hk _⟩ (fun j _ => vp_updV_set (by simp [ej_fs]; exact hk) _ j)⟩
    have hww : ej_w cA a0 bs M' = (ej_w cA a0 bs M).set (o - 59) (ej_ad a0 bs o, .inr (cc, (ej_fs a0 bs M o cc).set k (ej_tr a0 bs vZ v))) := by rw [w_upd hz' h59 hlt hne, hce]
    have hP' := hW.1.set w_D hg hat e3
    rw [← hww] at hP'
    have hh := kk H' (locs ++ [⟨ej_ad a0 bs o, f.slot⟩]) la (wp_next hW hz' hC hCM hP' e2) (hS.put e2 e3 (w_ad h59)) hL (by rw [hz']; exact hz) (by rw [hs']; exact hs)
    rwa [hz', hs'] at hh
  rcases hfin with hf | ⟨hf1, hf2, hf3⟩
  · have hlay := hts _ (lay_in hc _ (u_in_lay hk))
    unfold u_lay at hlay
    rw [if_neg (by rw [hf]; decide)] at hlay
    have h6 := u_store hfc hkC hkind hlay hi (fty_ok cc hc k hk) hn hfit
    exact W.putK C.1 C.2.1 (f := f) ⟨hown, hts _ hl, ⟨_, _, _, hsame⟩, hst⟩ (by rw [q2]; exact h6) q1 q3 (by rw [hsl]; exact k2_hasslot (q4 k hk)) rfl rfl hd fin
  · have hlay := hts _ (lay_in hc _ (u_in_lay hk))
    unfold u_lay at hlay
    rw [if_pos hf3] at hlay
    have hcf : m.cls = cf := by
      obtain ⟨_, _, c', _, _, _, -, -, hf', -, -, -, hown2, -⟩ := Cond.laysFinal_spec hlay
      have e1 : c' = cf := by have := hi.symm.trans hf'; simp at this; exact this.1.symm
      rw [fow_ok cc hc k hk, hf2] at hown2
      rw [← e1]; exact Option.some.inj (hown.symm.trans hown2)
    have h6 := u_fits hfc hkC hkind (Or.inr hlay) hi (fty_ok cc hc k hk) hn hfit
    exact W.putFinK C.1 C.2.1 hown (hts _ hl) hsame hst hcf (C.2.2.2.2.2.2.2.trans hf1) (by rw [q2]; exact h6) q1 q3 (by rw [hsl]; exact k2_hasslot (q4 k hk)) rfl rfl hd fin
-- my memory after a write
theorem up2_ne {α : Type} {f : Nat → Nat → α} {o k i : Nat} {v : α} (h : i ≠ o) : up2 f o k v i = f i := by simp [up2, va_up, h]
theorem up2_eq {α : Type} {f : Nat → Nat → α} {o k : Nat} {v : α} : up2 f o k v o = va_up (f o) k v := by simp [up2, va_up]
theorem fs_set {M' : ej_Mem} {o cc k : Nat} {v : Value} (hk : k < NN cc) (h1 : ej_fv a0 bs M' o cc k = v) (h2 : ∀ j, j ≠ k → ej_fv a0 bs M' o cc j = ej_fv a0 bs M o cc j) : ej_fs a0 bs M' o cc = (ej_fs a0 bs M o cc).set k v := by
  apply List.ext_getElem?
  intro j
  have hl : (ej_fs a0 bs M o cc).length = NN cc := by simp [ej_fs]
  by_cases hj : k = j
  · subst hj
    rw [List.getElem?_set_self (by rw [hl]; exact hk), fs_get hk, h1]
  · rw [List.getElem?_set_ne hj]
    by_cases hlt : j < NN cc
    · rw [fs_get hlt, fs_get hlt, h2 j (fun q => hj q.symm)]
    · rw [List.getElem?_eq_none (by simp [ej_fs]; omega), List.getElem?_eq_none (by rw [hl]; omega)]
theorem ce_same {M' : ej_Mem} {i : Nat} (h1 : mC M' i = mC M i) (h2 : mN M' i = mN M i) (h3 : mI M' i = mI M i) (h4 : mL M' i = mL M i) (h5 : mR M' i = mR M i) (h6 : aI M' i = aI M i) (h7 : aR M' i = aR M i) : ej_ce cA a0 bs M' i = ej_ce cA a0 bs M i := by
  unfold ej_ce ej_fs ej_fv
  rw [h1, h2, h3, h4, h5, h6, h7]
theorem sd_putI (C : ej_Cx p s m args meth c D cA a0 bs vZ L xs me) {ix cc k o : Nat} {v : Int32} (hd : decode (ej_b me) pc = .ok (.putfield ix, 3)) (hw : hasF (ej_own me) ix cc k = true) (hfin : (TT cc k).2.2.2 = false ∨ ((ej_y me).name = "<init>" ∧ cc = ej_own me ∧ (TT cc k).2.2.2 = true)) (hf : fcd cc k = 0 ∨ (fcd cc k = 3 ∧ (v = 0 ∨ v = 1))) (ho : mC M o = cc) (kk : ej_G p l e R s m args below meth c Q D cA a0 bs vZ L xs me z0 s0 (pc + 3) ls st (setI M o k v)) : ej_G p l e R s m args below meth c Q D cA a0 bs vZ L xs me z0 s0 pc ls (.int v :: .ref o :: st) M := by
  obtain ⟨-, hc, hk⟩ := hasF_ok hw
  have hty : narrow (fty cc k) (.int v) = .int v ∧ fits (fty cc k) (.int v) = true := by
    rcases fcd_ok cc hc k hk with ⟨h1, h2⟩ | ⟨h1, h2⟩ | ⟨h1, h2⟩ | ⟨h1, h2⟩
    · rw [h2]; exact ⟨rfl, rfl⟩
    · rcases hf with h | ⟨h, -⟩ <;> omega
    · rcases hf with h | ⟨-, h⟩
      · omega
      · rw [h2]; rcases h with rfl | rfl <;> exact ⟨rfl, rfl⟩
    · rcases hf with h | ⟨h, -⟩ <;> omega
  have hne : ∀ i, i ≠ o → ej_ce cA a0 bs (setI M o k v) i = ej_ce cA a0 bs M i := fun i hi => ce_same rfl rfl (up2_ne hi) rfl rfl rfl rfl
  refine sd_put (v := .int v) C hd hw hfin ho hty.1 hty.2 rfl rfl rfl ?_ ?_ hne kk
  · intro i hi
    have hio : i = o ∨ i ≠ o := by omega
    rcases hio with rfl | hio
    · exact ⟨rfl, rfl, rfl, rfl, rfl⟩
    · exact ⟨rfl, rfl, up2_ne hio, rfl, rfl⟩
  · rw [ce_obj (M := setI M o k v) ho hc]
    congr 2
    refine fs_set hk ?_ (fun j hj => ?_)
    · unfold ej_fv
      have : mI (setI M o k v) o k = v := by show up2 _ o k v o k = v; simp [up2, va_up]
      rcases hf with h | ⟨h, -⟩ <;> rw [h, this] <;> rfl
    · unfold ej_fv
      have : mI (setI M o k v) o j = mI M o j := by show up2 _ o k v o j = _; simp [up2, va_up, hj]; rfl
      rw [this]; rfl
theorem sd_putL (C : ej_Cx p s m args meth c D cA a0 bs vZ L xs me) {ix cc k o : Nat} {v : Int64} (hd : decode (ej_b me) pc = .ok (.putfield ix, 3)) (hw : hasF (ej_own me) ix cc k = true) (hfin : (TT cc k).2.2.2 = false ∨ ((ej_y me).name = "<init>" ∧ cc = ej_own me ∧ (TT cc k).2.2.2 = true)) (hf : fcd cc k = 1) (ho : mC M o = cc) (kk : ej_G p l e R s m args below meth c Q D cA a0 bs vZ L xs me z0 s0 (pc + 3) ls st (setL M o k v)) : ej_G p l e R s m args below meth c Q D cA a0 bs vZ L xs me z0 s0 pc ls (.long v :: .ref o :: st) M := by
  obtain ⟨-, hc, hk⟩ := hasF_ok hw
  have hty : narrow (fty cc k) (.long v) = .long v ∧ fits (fty cc k) (.long v) = true := by
    rcases fcd_ok cc hc k hk with ⟨h1, h2⟩ | ⟨h1, h2⟩ | ⟨h1, h2⟩ | ⟨h1, h2⟩
    · omega
    · rw [h2]; exact ⟨rfl, rfl⟩
    · omega
    · omega
  have hne : ∀ i, i ≠ o → ej_ce cA a0 bs (setL M o k v) i = ej_ce cA a0 bs M i := fun i hi => ce_same rfl rfl rfl (up2_ne hi) rfl rfl rfl
  refine sd_put (v := .long v) C hd hw hfin ho hty.1 hty.2 rfl rfl rfl (fun i hi => ⟨rfl, rfl, rfl, rfl, rfl⟩) ?_ hne kk
  rw [ce_obj (M := setL M o k v) ho hc]
  congr 2
  refine fs_set hk ?_ (fun j hj => ?_)
  · unfold ej_fv
    have : mL (setL M o k v) o k = v := by show up2 _ o k v o k = v; simp [up2, va_up]
    rw [hf, this]; rfl
  · unfold ej_fv
    have : mL (setL M o k v) o j = mL M o j := by show up2 _ o k v o j = _; simp [up2, va_up, hj]; rfl
    rw [this]; rfl
theorem sd_putR (C : ej_Cx p s m args meth c D cA a0 bs vZ L xs me) {ix cc k o : Nat} {v : Option Nat} (hd : decode (ej_b me) pc = .ok (.putfield ix, 3)) (hw : hasF (ej_own me) ix cc k = true) (hfin : (TT cc k).2.2.2 = false ∨ ((ej_y me).name = "<init>" ∧ cc = ej_own me ∧ (TT cc k).2.2.2 = true)) (hf : fcd cc k = 2) (ho : mC M o = cc) (h59 : 59 ≤ o) (kk : ej_G p l e R s m args below meth c Q D cA a0 bs vZ L xs me z0 s0 (pc + 3) ls st (setR M o k v)) : ej_G p l e R s m args below meth c Q D cA a0 bs vZ L xs me z0 s0 pc ls (va_rf v :: .ref o :: st) M := by
  obtain ⟨-, hc, hk⟩ := hasF_ok hw
  have hty : narrow (fty cc k) (va_rf (v.map (ej_ad a0 bs))) = va_rf (v.map (ej_ad a0 bs)) ∧ fits (fty cc k) (va_rf (v.map (ej_ad a0 bs))) = true := by
    rcases fcd_ok cc hc k hk with ⟨h1, h2⟩ | ⟨h1, h2⟩ | ⟨h1, h2⟩ | ⟨h1, h2⟩
    · omega
    · omega
    · omega
    · cases hfy : fty cc k <;> rw [hfy] at h2 <;> first | (cases h2; done) | (cases v <;> exact ⟨rfl, rfl⟩)
  have hne : ∀ i, i ≠ o → ej_ce cA a0 bs (setR M o k v) i = ej_ce cA a0 bs M i := fun i hi => ce_same rfl rfl rfl rfl (up2_ne hi) rfl rfl
  refine sd_put (v := va_rf v) C hd hw hfin ho (by rw [tr_rf]; exact hty.1) (by rw [tr_rf]; exact hty.2) rfl rfl rfl (cm_of h59 fun i hi => ⟨rfl, rfl, rfl, up2_ne hi, rfl⟩) ?_ hne kk
  rw [ce_obj (M := setR M o k v) ho hc, tr_rf]
  congr 2
  refine fs_set hk ?_ (fun j hj => ?_)
  · unfold ej_fv
    have : mR (setR M o k v) o k = v := by show up2 _ o k v o k = v; simp [up2, va_up]
    rw [hf, this]
  · unfold ej_fv
    have : mR (setR M o k v) o j = mR M o j := by show up2 _ o k v o j = _; simp [up2, va_up, hj]; rfl
    rw [this]; rfl
end STEP
