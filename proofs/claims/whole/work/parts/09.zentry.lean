/-! the law's entry: what the Statement gives of the start -/
def flC : List Cond := flatC (Jvm.Cond.and given_1 narrow_1)
def fa_t (n : Nat) (w : Cond) : Bool := decide (flC[n]? = some w)
theorem fat_mem {n : Nat} {w : Cond} (h : fa_t n w = true) : w ∈ flC := List.mem_of_getElem? (of_decide_eq_true h)
def ej_exs : List Nat := [43, 51, 59, 66, 74, 81, 89, 97, 105, 113, 120, 126, 133, 139, 145, 154, 163, 172, 181, 189, 198, 206, 215, 224, 232, 239, 247, 254]
abbrev ej_sv (e : Nat × Nat × Nat × Nat × String) : Term := .field (.string (ej_cn e.1) e.2.1) "java/lang/String" "value" "[B"
/-- a word's premises, from its place on -/
def ej_sck (e : Nat × Nat × Nat × Nat × String) (n : Nat) (by1 : List Int32) : Bool :=
  fa_t n (.exactly (.string (ej_cn e.1) e.2.1) "java/lang/String") && (fa_t (n + 1) (.eq (.field (.string (ej_cn e.1) e.2.1) "java/lang/String" "coder" "B") (.int 0)) && (fa_t (n + 2) (.arrayOf (ej_sv e) .byte) && (fa_t (n + 3) (.eq (.length (ej_sv e)) (.int (Int32.ofNat by1.length))) && (List.range by1.length).all fun j => fa_t (n + 4 + j) (.eq (.elem (ej_sv e) (.int (Int32.ofNat j))) (.int (by1.getD j 0))))))
theorem sck_all : ∀ k, k < 28 → ej_sck (ej_lkT.getD k (0, 0, 0, 0, "")) (ej_exs.getD k 0) (ej_sby.getD k []) = true ∧ (ej_lkT.getD k (0, 0, 0, 0, "")).2.2.1 = 3 + k ∧ (ej_sby.getD k []).length < 10 := by decide +kernel
theorem lkT_len : ej_lkT.length = 28 := by decide +kernel
theorem str_one {args : Array Value} {s : State} {bs : Nat} (hbs : bs = s.heap.size) (hfl : ∀ w ∈ flC, w.before args s = true) {k : Nat} (hk : k < 28) : ∃ q : Nat × Nat, (Term.string (ej_cn (ej_lkT.getD k (0, 0, 0, 0, "")).1) (ej_lkT.getD k (0, 0, 0, 0, "")).2.1).eval args s none [] s = some (.ref q.1) ∧ va_O "java/lang/String" q.1 (ej_A bs) s s.heap ∧ va_OF "java/lang/String" "coder" "B" (.int 0) q.1 (ej_A bs) s s.heap ∧ va_OF "java/lang/String" "value" "[B" (.ref q.2) q.1 (ej_A bs) s s.heap ∧ va_T .byte q.2 (ej_sby.getD k []).length (fun j => .int ((ej_sby.getD k []).getD j 0)) (ej_A bs) s s.heap := by
  obtain ⟨h1, -, h3⟩ := sck_all k hk
  simp only [ej_sck, Bool.and_eq_true] at h1
  obtain ⟨g1, g2, g3, g4, g5⟩ := h1
  have hA : ∀ a : Nat, a < s.heap.size → ¬ ej_A bs a := fun a ha h => by have : bs ≤ a := h; omega
  obtain ⟨adK, adV, hS, hE⟩ := vk_Sof (args := args) (s := s) (N := 1) (tm := fun _ => .string (ej_cn (ej_lkT.getD k (0, 0, 0, 0, "")).1) (ej_lkT.getD k (0, 0, 0, 0, "")).2.1) (len := [(ej_sby.getD k []).length]) (byt := [ej_sby.getD k []]) (A := ej_A bs)
    (fun i hi => by rw [show i = 0 by omega]; show (ej_sby.getD k []).length < 2 ^ 31; omega) (fun i hi => hfl _ (fat_mem g1)) (fun i hi => hfl _ (fat_mem g2)) (fun i hi => hfl _ (fat_mem g3)) (fun i hi => by rw [show i = 0 by omega]; exact hfl _ (fat_mem g4))
    (fun i hi j hj => by
      rw [show i = 0 by omega] at hj ⊢
      have hj : j < (ej_sby.getD k []).length := hj
      exact hfl _ (fat_mem (List.all_eq_true.mp g5 j (List.mem_range.mpr hj)))) (fun i j hi hj hne => absurd (show i = j by omega) hne) hA
  obtain ⟨q1, q2, q3, q4⟩ := hS.1 0 (by omega)
  exact ⟨(adK 0, adV 0), hE 0 (by omega), q1, q2, q3, q4⟩
theorem tab_one {args : Array Value} {s : State} {bs : Nat} (hbs : bs = s.heap.size) (hfl : ∀ w ∈ flC, w.before args s = true) {nm : String} {vs : List Int32} {n : Nat} (h1 : fa_t n (.arrayOf (.static "FeignedSuit" nm "[I") .int) = true) (h2 : fa_t (n + 1) (.eq (.length (.static "FeignedSuit" nm "[I")) (.int 4)) = true) (h3 : ∀ j, j < 4 → fa_t (n + 2 + j) (.eq (.elem (.static "FeignedSuit" nm "[I") (.int (Int32.ofNat j))) (.int (vs.getD j 0))) = true) :
    ∃ t : Nat, (Term.static "FeignedSuit" nm "[I").eval args s none [] s = some (.ref t) ∧ va_T .int t 4 (fun j => .int (vs.getD j 0)) (ej_A bs) s s.heap :=
  va_Tof (by decide) (hfl _ (fat_mem h1)) (va_eqt (hfl _ (fat_mem h2))) (fun j hj => va_eqt (hfl _ (fat_mem (h3 j hj)))) (fun a ha h => by have : bs ≤ a := h; omega)
theorem st_M : Cond.laysStatic "FeignedSuit" "MOST_OF_SORT" "[I" ∈ tables_1 := at_mem (n := 96) (by decide +kernel)
theorem st_P : Cond.laysStatic "FeignedSuit" "PLACE_OF_SORT" "[I" ∈ tables_1 := at_mem (n := 591) (by decide +kernel)
theorem st_C : Cond.laysStatic "java/lang/String" "COMPACT_STRINGS" "Z" ∈ tables_1 := at_mem (n := 431) (by decide +kernel)
theorem st_F : Cond.laysStatic "jdk/internal/util/Preconditions" "SIOOBE_FORMATTER" "Ljava/util/function/BiFunction;" ∈ tables_1 := at_mem (n := 450) (by decide +kernel)
theorem ta_M1 : fa_t 5 (.arrayOf (.static "FeignedSuit" "MOST_OF_SORT" "[I") .int) = true := by decide +kernel
theorem ta_M2 : fa_t (5 + 1) (.eq (.length (.static "FeignedSuit" "MOST_OF_SORT" "[I")) (.int 4)) = true := by decide +kernel
theorem ta_M3 : ∀ j, j < 4 → fa_t (5 + 2 + j) (.eq (.elem (.static "FeignedSuit" "MOST_OF_SORT" "[I") (.int (Int32.ofNat j))) (.int (([40, 8, 16, 8] : List Int32).getD j 0))) = true := by decide +kernel
theorem ta_P1 : fa_t 17 (.arrayOf (.static "FeignedSuit" "PLACE_OF_SORT" "[I") .int) = true := by decide +kernel
theorem ta_P2 : fa_t (17 + 1) (.eq (.length (.static "FeignedSuit" "PLACE_OF_SORT" "[I")) (.int 4)) = true := by decide +kernel
theorem ta_P3 : ∀ j, j < 4 → fa_t (17 + 2 + j) (.eq (.elem (.static "FeignedSuit" "PLACE_OF_SORT" "[I") (.int (Int32.ofNat j))) (.int (([0, 40, 48, 64] : List Int32).getD j 0))) = true := by decide +kernel
theorem ta_C : fa_t 11 (.eq (.static "java/lang/String" "COMPACT_STRINGS" "Z") (.int 1)) = true := by decide +kernel
theorem ta_F : fa_t 12 (.isRef (.static "jdk/internal/util/Preconditions" "SIOOBE_FORMATTER" "Ljava/util/function/BiFunction;")) = true := by decide +kernel
theorem nst_in : ∀ e ∈ ej_lkN, Cond.methodLinkNest (ej_cn e.1) e.2.1 (ej_y e.2.2.1) "FeignedSuit" ∈ tables_1 := fun e he => at_mem (List.all_eq_true.mp lkN_all e he)
theorem nf_1 : Cond.fieldLinkNest "FeignedSuit$Land" 21 "FeignedSuit" "MOST_OF_SORT" "[I" "FeignedSuit" ∈ tables_1 := at_mem (n := 95) (by decide +kernel)
theorem nf_2 : Cond.fieldLinkNest "FeignedSuit$Land" 63 "FeignedSuit" "PLACE_OF_SORT" "[I" "FeignedSuit" ∈ tables_1 := at_mem (n := 590) (by decide +kernel)
set_option maxHeartbeats 2000000 in
/-- the start, in my words -/
theorem entry_sf {s : State} {b L : Nat} {xs : Nat → Int32} (hL : L ≤ 3072) (htb : ∀ w ∈ lw_tbl, w.before #[Value.ref b] s = true) (hX : va_X b L xs s s.heap) (hbl : b < s.heap.size) (hgv : (Jvm.Cond.and given_1 narrow_1).before #[Value.ref b] s = true) :
    ∃ (D : va_G) (cA : Nat → ClassId) (a0 : Nat → Nat) (vZ : Value), a0 0 = b ∧ ej_SF D cA a0 s.heap.size vZ L xs s s.heap := by
  have ht1 : ∀ w ∈ tables_1, w.before #[Value.ref b] s = true := fun w hw => htb w (List.mem_append_right _ hw)
  have hgt : ∀ w ∈ gtbl, w.before #[Value.ref b] s = true := fun w hw => htb w (List.mem_filter.mp hw).1
  have hfl : ∀ w ∈ flC, w.before #[Value.ref b] s = true := flat_of_before _ hgv
  have hA : ∀ a : Nat, a < s.heap.size → ¬ ej_A s.heap.size a := fun a ha h => by have : s.heap.size ≤ a := h; omega
  -- classes
  have hcl : ∀ cc : Nat, ∃ x : ClassId × (Nat → Nat), cc < 10 → u_Kn s (ej_cn cc) (TT cc) (NN cc) x.1 x.2 := by
    intro cc
    by_cases hc : cc < 10
    · obtain ⟨cC, iS, h⟩ := u_known (n := NN cc) hgt (lay_in hc) (hgt _ (inst_in hc))
      exact ⟨(cC, iS), fun _ => h⟩
    · exact ⟨(0, fun _ => 0), fun h => absurd h hc⟩
  obtain ⟨fD, hD⟩ := Classical.axiomOfChoice hcl
  -- arrays
  have prim : ∀ ty : FieldType, Cond.arrayClass ty ∈ gtbl → (∀ C, ty ≠ .object C) → ∃ cA : ClassId, ArrOfT s cA ty ∧ va_RA s cA ty := by
    intro ty hty hno
    obtain ⟨cA, kA, comp, h1, h2, h3⟩ := Cond.arrayClass_spec (hgt _ hty)
    refine ⟨cA, fun n z => ⟨fun k h => (by cases h), kA, h2, comp, h3⟩, ?_⟩
    cases ty <;> first | exact h1 | exact absurd rfl (hno _)
  have refs : ∀ C : String, Cond.arrayOver (.object C) ∈ tables_1 → ∃ cA : ClassId, ArrOfT s cA (.object C) ∧ va_RA s cA (.object C) := by
    intro C hC
    obtain ⟨comp, cA, kA, h1, h2, h3, h4, h5⟩ := Cond.arrayOver_spec (ht1 _ hC)
    exact ⟨cA, fun n z => ⟨fun k h => (by cases h), kA, h3, comp, h4⟩, kA, comp, h3, h4, h1, h5⟩
  obtain ⟨c100, p1, p2⟩ := prim .int arr_I (fun C h => by cases h)
  obtain ⟨c101, p3, p4⟩ := prim .byte arr_B (fun C h => by cases h)
  obtain ⟨c102, p5, p6⟩ := prim .boolean arr_Z (fun C h => by cases h)
  obtain ⟨c103, p7, p8⟩ := refs _ arr_W
  obtain ⟨c104, p9, p10⟩ := refs _ arr_L
  -- words
  have hst : ∀ k : Nat, ∃ q : Nat × Nat, k < 28 → (Term.string (ej_cn (ej_lkT.getD k (0, 0, 0, 0, "")).1) (ej_lkT.getD k (0, 0, 0, 0, "")).2.1).eval #[Value.ref b] s none [] s = some (.ref q.1) ∧ va_O "java/lang/String" q.1 (ej_A s.heap.size) s s.heap ∧ va_OF "java/lang/String" "coder" "B" (.int 0) q.1 (ej_A s.heap.size) s s.heap ∧ va_OF "java/lang/String" "value" "[B" (.ref q.2) q.1 (ej_A s.heap.size) s s.heap ∧ va_T .byte q.2 (ej_sby.getD k []).length (fun j => .int ((ej_sby.getD k []).getD j 0)) (ej_A s.heap.size) s s.heap := by
    intro k
    by_cases hk : k < 28
    · obtain ⟨q, h⟩ := str_one (bs := s.heap.size) rfl hfl hk
      exact ⟨q, fun _ => h⟩
    · exact ⟨(0, 0), fun h => absurd h hk⟩
  obtain ⟨fS, hS⟩ := Classical.axiomOfChoice hst
  -- tables and statics
  obtain ⟨tM, tM1, tM2⟩ := tab_one (bs := s.heap.size) rfl hfl ta_M1 ta_M2 ta_M3
  obtain ⟨tP, tP1, tP2⟩ := tab_one (bs := s.heap.size) rfl hfl ta_P1 ta_P2 ta_P3
  have hini : ∀ cc : Nat, cc < 18 → (Cond.initialized (ej_cn cc)).before #[Value.ref b] s = true := fun cc hc => hgt _ (init_in hc)
  have zM := va_Zof (v := .ref tM) (ht1 _ st_M) (hini 8 (by omega)) tM1 hA
  have zP := va_Zof (v := .ref tP) (ht1 _ st_P) (hini 8 (by omega)) tP1 hA
  have zC := va_Zof (v := .int 1) (ht1 _ st_C) (hini 10 (by omega)) (va_eqi (hfl _ (fat_mem ta_C))) hA
  have zF := va_Zqof (ht1 _ st_F) (hini 17 (by omega)) (hfl _ (fat_mem ta_F)) hA
  obtain ⟨vZ, hvZ, zF⟩ : ∃ vZ : Value, (vZ = .null ∨ ∃ t, vZ = .ref t) ∧ va_Z "jdk/internal/util/Preconditions" "SIOOBE_FORMATTER" "Ljava/util/function/BiFunction;" vZ (ej_A s.heap.size) s s.heap := by
    rcases zF with h | ⟨t, h⟩
    · exact ⟨.null, Or.inl rfl, h⟩
    · exact ⟨.ref t, Or.inr ⟨t, rfl⟩, h⟩
  obtain ⟨scr, x1, x2, x3, x4, x5⟩ := hX
  have tX : va_T .int b L (fun j => .int (xs j)) (ej_A s.heap.size) s s.heap := ⟨scr, x1, x2, x3, by omega, by rw [x4] <;> rfl, x5, hA b hbl⟩
  let a0 : Nat → Nat := fun i => if i = 0 then b else if i = 1 then tM else if i = 2 then tP else if i < 31 then (fS (i - 3)).1 else (fS (i - 31)).2
  let cA : Nat → ClassId := fun k => if k = 100 then c100 else if k = 101 then c101 else if k = 102 then c102 else if k = 103 then c103 else c104
  refine ⟨(fun cc => (fD cc).1, fun cc => (fD cc).2), cA, a0, vZ, rfl, ⟨?_, ?_⟩, ?_, ?_, ?_, ?_, hvZ⟩
  · intro cc q hq
    have hc : cc < 10 := by
      have := (List.getElem?_eq_some_iff.mp hq).1
      simpa [ej_vw] using this
    rw [vw_at hc] at hq
    cases hq
    exact hD cc hc
  · intro k q hq
    match k, hq with
    | 0, hq => cases hq; exact ⟨p1, p2⟩
    | 1, hq => cases hq; exact ⟨p3, p4⟩
    | 2, hq => cases hq; exact ⟨p5, p6⟩
    | 3, hq => cases hq; exact ⟨p7, p8⟩
    | 4, hq => cases hq; exact ⟨p9, p10⟩
    | k + 5, hq => simp [ej_tys] at hq
  · intro i hi
    have kk : mC (ej_M0 L xs) i = ej_k0 i := rfl
    rcases (show i = 0 ∨ i = 1 ∨ i = 2 ∨ (3 ≤ i ∧ i < 31) ∨ 31 ≤ i by omega) with rfl | rfl | rfl | h | h
    · exact ⟨fun _ => tX, fun h => (by cases h), fun h => (by cases h)⟩
    · exact ⟨fun _ => tM2, fun h => (by cases h), fun h => (by cases h)⟩
    · exact ⟨fun _ => tP2, fun h => (by cases h), fun h => (by cases h)⟩
    · have hk : ej_k0 i = 10 := by unfold ej_k0; rw [if_neg (by omega), if_pos h.2]
      refine ⟨fun z => (by rw [kk, hk] at z; cases z), fun z => (by rw [kk, hk] at z; cases z), fun _ => ?_⟩
      obtain ⟨q1, q2, q3, q4, q5⟩ := hS (i - 3) (by omega)
      have e1 : a0 i = (fS (i - 3)).1 := by
        show (if i = 0 then b else if i = 1 then tM else if i = 2 then tP else if i < 31 then (fS (i - 3)).1 else (fS (i - 31)).2) = _
        rw [if_neg (by omega), if_neg (by omega), if_neg (by omega), if_pos h.2]
      have e2 : a0 (i + 28) = (fS (i - 3)).2 := by
        show (if i + 28 = 0 then b else if i + 28 = 1 then tM else if i + 28 = 2 then tP else if i + 28 < 31 then (fS (i + 28 - 3)).1 else (fS (i + 28 - 31)).2) = _
        rw [if_neg (by omega), if_neg (by omega), if_neg (by omega), if_neg (by omega), show i + 28 - 31 = i - 3 by omega]
      have e3 : mR (ej_M0 L xs) i 0 = some (i + 28) := by
        show (if 3 ≤ i ∧ i < 31 then some (i + 28) else none) = _
        rw [if_pos h]
      rw [e1]
      exact ⟨q2, q3, i + 28, e3, by omega, by rw [e2]; exact q4⟩
    · have hk : ej_k0 i = 111 := by unfold ej_k0; rw [if_neg (by omega), if_neg (by omega), if_pos hi]
      refine ⟨fun z => (by rw [kk, hk] at z; cases z), fun _ => ?_, fun z => (by rw [kk, hk] at z; cases z)⟩
      obtain ⟨q1, q2, q3, q4, q5⟩ := hS (i - 31) (by omega)
      have e1 : a0 i = (fS (i - 31)).2 := by
        show (if i = 0 then b else if i = 1 then tM else if i = 2 then tP else if i < 31 then (fS (i - 3)).1 else (fS (i - 31)).2) = _
        rw [if_neg (by omega), if_neg (by omega), if_neg (by omega), if_neg (by omega)]
      have e2 : mN (ej_M0 L xs) i = (ej_sby.getD (i - 31) []).length := by
        show (if i = 0 then L else if i < 3 then 4 else if i < 31 then 0 else (ej_sby.getD (i - 31) []).length) = _
        rw [if_neg (by omega), if_neg (by omega), if_neg (by omega)]
      have e3 : aI (ej_M0 L xs) i = fun j => (ej_sby.getD (i - 31) []).getD j 0 := by
        funext j
        show (if i = 0 then xs j else if i = 1 then ([40, 8, 16, 8] : List Int32).getD j 0 else if i = 2 then ([0, 40, 48, 64] : List Int32).getD j 0 else (ej_sby.getD (i - 31) []).getD j 0) = _
        rw [if_neg (by omega), if_neg (by omega), if_neg (by omega)]
      rw [e1, e2, e3]
      exact q5
  · intro e he
    obtain ⟨k, hk⟩ := List.getElem?_of_mem he
    have hlt : k < 28 := by rw [← lkT_len]; exact (List.getElem?_eq_some_iff.mp hk).1
    have hge : ej_lkT.getD k (0, 0, 0, 0, "") = e := by rw [List.getD_eq_getElem?_getD, hk]; rfl
    obtain ⟨q1, -⟩ := hS k hlt
    obtain ⟨-, hid, -⟩ := sck_all k hlt
    rw [hge] at q1 hid
    have e1 : a0 e.2.2.1 = (fS k).1 := by
      rw [hid]
      show (if 3 + k = 0 then b else if 3 + k = 1 then tM else if 3 + k = 2 then tP else if 3 + k < 31 then (fS (3 + k - 3)).1 else (fS (3 + k - 31)).2) = _
      rw [if_neg (by omega), if_neg (by omega), if_neg (by omega), if_pos (by omega), show 3 + k - 3 = k by omega]
    rw [e1]
    exact vk_R.of (ht1 _ (at_mem (List.all_eq_true.mp lkT_all e he))) q1
  · exact ⟨fun e he => va_Nw.of rfl (ht1 _ (nst_in e he)), va_Nw.of rfl (ht1 _ nf_1), va_Nw.of rfl (ht1 _ nf_2), va_Nw.of rfl (ht1 _ cl_cas), va_AO.of (ht1 _ arr_W), va_AO.of (ht1 _ arr_L)⟩
  · exact ⟨zM, zP, zC, zF⟩
def R_law : String := "FeignedSuitLaw"
def lw_P (b : Addr) (xs : List Int32) (args : Array Value) (s : State) : Prop := args = #[.ref b] ∧ s.IntsAt b xs ∧ xs.length ≤ 3072 ∧ (Jvm.Cond.and given_1 narrow_1).before args s = true
def lw_Q (_ : Array Value) (s : State) (o : Outcome) (t : State) : Prop := o = .returned (some (.int 1)) ∧ Framed s o t [] 600000 7302250
def lw_Z (below : List Frame) (a : Array Value) (s : State) : State → Prop := fun t => ∃ o, t.status = .running ∧ Ended t below o ∧ lw_Q a s o t
/-- the law's own end, with 1 on the stack, nothing written that was there before, its room as the claim has it -/
theorem lw_ret {p : Program} {l : Launch} {e : Env} {s : State} {m : MethodId} {below : List Frame} {meth : Method} {c : Code} {b : Nat} (hx : p.tables.exec = Jvm.exec) (hb : c.code = code) (hr : meth.sig.returnType = ret) (hlocks : meth.locks = false) {pc : Nat} {H : Heap} {ls : Array Slot} (hdg : decode code pc = .ok (.ireturn, 1)) : W p l e room_1 s m #[Value.ref b] below meth c H [] 600000 7302250 (lw_Z below #[Value.ref b] s) (F0 m pc ls [.int 1]) := by
  intro T hT X
  obtain ⟨fs, hret, hrun, hended, hW, hframe⟩ := X.leave (v := some (.int 1)) (hlocks := hlocks) (fun h => by rw [hr] at h; cases h)
  have hmeth' : T.vm.method? m = some meth := X.method'
  refine ⟨T.setFrames fs, ?_, .returned (some (.int 1)), hrun, hended, rfl, ⟨_, rfl⟩, hW, hframe⟩
  jvm_step X.here [X.here.top, hx, hb, hdg, hmeth', hr, ret, narrow_b1]
  (try refine ⟨rfl, ?_⟩); (try refine ⟨rfl, ?_⟩)
  first | (intro acts; rw [hret _ acts rfl rfl rfl]) | rw [hret _ _ rfl rfl rfl]
  exact Steps.refl _
/-- what holds at the law's entry: the machine, the code, the tables' words (any of lw_tbl by 'hts w (by decide +kernel)'), the script of L ints xs at the cell b, what the Statement gives of the start (any of its parts by flat_of_before) -/
def lw_At (p : Program) (s : State) (m : MethodId) (meth : Method) (c : Code) (b L : Nat) (xs : Nat → Int32) : Prop :=
  p.tables.exec = Jvm.exec ∧ c.code = code ∧ meth.sig.returnType = ret ∧ c.maxLocals = 4 ∧ s.vm.findClass R_law = some m.cls ∧ (∀ w ∈ lw_tbl, w.before #[Value.ref b] s = true) ∧ va_X b L xs s s.heap ∧ b < s.heap.size ∧ meth.locks = false ∧ (Jvm.Cond.and given_1 narrow_1).before #[Value.ref b] s = true
/-- my machine's run of the law gives the claim's walk: what is left is pure -/
theorem whole_of (hrun : ∀ (L : Nat) (xs : Nat → Int32), L ≤ 3072 → ∃ Mf, rn jm_Law_law (ej_call ej_sw ej_code ej_mx 13) 0 [some (.ref 0), none, none, none] [] (ej_M0 L xs) = some (some (.int 1), Mf) ∧ mZ Mf ≤ 600059 ∧ mS Mf ≤ 7302250)
    {p : Program} {e : Env} {s : State} {m : MethodId} {below : List Frame} {meth : Method} {c : Code} (l : Launch) {b L : Nat} {xs : Nat → Int32} (hL : L ≤ 3072) (C0 : lw_At p s m meth c b L xs) : W p l e room_1 s m #[Value.ref b] below meth c s.heap [] 0 0 (lw_Z below #[Value.ref b] s) (entryFrame m ([Value.ref b] : List Value).toArray 4) := by
  obtain ⟨hx, hb, hr, hml, hown, hts, hX, hbl, hlocks, hgv⟩ := C0
  obtain ⟨D, cA, a0, vZ, ha0, hSF⟩ := entry_sf hL hts hX hbl hgv
  obtain ⟨Mf, hM, hz, hs⟩ := hrun L xs hL
  obtain ⟨n, hn⟩ := (run_iff _ _ _ _ _ _ _ _).mp hM
  have hvz := hSF.2.2.2.2.2
  have C : ej_Cx p s m #[Value.ref b] meth c D cA a0 s.heap.size vZ L xs 221 := ⟨hx, hb, hml, hown, fun w hw => hts w (List.mem_filter.mp hw).1, hSF, Nat.le_refl _, fun h => absurd h (by decide)⟩
  have hWP : ej_WP D cA a0 s.heap.size L xs (ej_M0 L xs) s.heap := by
    refine ⟨fun k q h => ?_, rfl, Nat.le_refl _, fun i hi => ⟨rfl, rfl, rfl, rfl, rfl⟩, fun i hi => ?_, fun i h1 h2 => ?_⟩
    · obtain ⟨h1, -⟩ := w_lt h
      have : k < 59 - 59 := h1
      omega
    · have hi : 59 ≤ i := hi
      show ej_k0 i = 200
      unfold ej_k0
      rw [if_neg (by omega), if_neg (by omega), if_neg (by omega)]
    · have : i < 59 := h2
      omega
  have hG := sound_rf (l := l) (e := e) (below := below) (meth := meth) (Q := lw_Z below #[Value.ref b] s) (R := room_1) (z0 := 59) (s0 := 0) (d0 := 13) (r := (some (.int 1), Mf)) C (by omega) ⟨by show mZ Mf - 59 ≤ 600000; omega, by show mS Mf - 0 ≤ 7302250; omega⟩ ⟨by decide, by decide⟩
    (fun a av1 M3 v1 M4 ha hc => sound_call hvz 13 a av1 M3 v1 M4 ha hc) (fun a av1 M3 v1 M4 hc => call_mo 13 a av1 M3 v1 M4 hc)
    (fun {pc a ls v' M} hd hk hnr he => by
      cases he
      intro H locs la hW hS hL hz1 hs1
      refine va_forget (fun q hq => hS.2.2 q hq) ?_
      refine W.widen (k := 600000) (n := 7302250) (by omega) (by omega) ?_
      exact lw_ret hx hb hr hlocks hd)
    (fun {pc ls v' M} hd hk he => by cases he)
    (fun {pc ls q M} hd hk he => by cases q <;> cases he)
    (fun {pc ls M} hd hk he => by cases he)
    n 0 _ [] (ej_M0 L xs) hn
  have hle : (ej_args [Value.ref 0]).length ≤ 4 := by decide
  have htr : [Value.ref 0].map (ej_tr a0 s.heap.size vZ) = [Value.ref b] := by
    show [Value.ref (ej_ad a0 s.heap.size 0)] = _
    have : ej_ad a0 s.heap.size 0 = b := ha0
    rw [this]
  have hh := hG s.heap [] _ hWP va_S.rf (ent_lc (av := [Value.ref 0]) (nL := 4) hvz hle) (Nat.le_refl _) (Nat.le_refl _)
  rw [htr] at hh
  rw [lg_entry_eq]
  exact hh
