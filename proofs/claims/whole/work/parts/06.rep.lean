/-! how the model's heap holds my memory -/
def ej_k0 (i : Nat) : Nat := if i < 3 then 110 else if i < 31 then 10 else if i < 59 then 111 else 200
/-- what stood there before: the script, two rows of the class, the words and their bytes -/
def ej_M0 (L : Nat) (xs : Nat → Int32) : ej_Mem :=
  (ej_k0,
   (fun i => if i = 0 then L else if i < 3 then 4 else if i < 31 then 0 else (ej_sby.getD (i - 31) []).length),
   (fun _ _ => 0), (fun _ _ => 0),
   (fun i _ => if 3 ≤ i ∧ i < 31 then some (i + 28) else none),
   (fun i j => if i = 0 then xs j else if i = 1 then ([40, 8, 16, 8] : List Int32).getD j 0 else if i = 2 then ([0, 40, 48, 64] : List Int32).getD j 0 else (ej_sby.getD (i - 31) []).getD j 0),
   (fun _ _ => none), 59, 0)
def ej_ad (a0 : Nat → Nat) (bs i : Nat) : Nat := if i < 59 then a0 i else bs + (i - 59)
def ej_tr (a0 : Nat → Nat) (bs : Nat) (vZ : Value) (v : Value) : Value := match v with
  | .ref i => .ref (ej_ad a0 bs i)
  | .float _ => vZ
  | v => v
def ej_fv (a0 : Nat → Nat) (bs : Nat) (M : ej_Mem) (o c k : Nat) : Value := match fcd c k with
  | 1 => .long (mL M o k)
  | 2 => va_rf ((mR M o k).map (ej_ad a0 bs))
  | _ => .int (mI M o k)
def ej_fs (a0 : Nat → Nat) (bs : Nat) (M : ej_Mem) (o c : Nat) : List Value := (List.range (NN c)).map (ej_fv a0 bs M o c)
def ej_ce (cA : Nat → ClassId) (a0 : Nat → Nat) (bs : Nat) (M : ej_Mem) (o : Nat) : va_E :=
  if mC M o < 10 then .inr (mC M o, ej_fs a0 bs M o (mC M o))
  else if mC M o < 103 then .inl (cA (mC M o), mN M o, .inl (aI M o))
  else .inl (cA (mC M o), mN M o, .inr (.inr (.inr (.inr (fun j => (aR M o j).map (ej_ad a0 bs))))))
def ej_w (cA : Nat → ClassId) (a0 : Nat → Nat) (bs : Nat) (M : ej_Mem) : va_W := (List.range (mZ M - 59)).map fun i => (bs + i, ej_ce cA a0 bs M (59 + i))
def ej_ty (k : Nat) : FieldType := match k with
  | 100 => .int
  | 101 => .byte
  | 102 => .boolean
  | 103 => .object "FeignedSuit$Writ"
  | _ => .object "FeignedSuit$Land"
def ej_tys (cA : Nat → ClassId) : List (ClassId × FieldType) := [(cA 100, .int), (cA 101, .byte), (cA 102, .boolean), (cA 103, .object "FeignedSuit$Writ"), (cA 104, .object "FeignedSuit$Land")]
def ej_CM (M0 M : ej_Mem) : Prop := ∀ i, i < 59 → mC M i = mC M0 i ∧ mN M i = mN M0 i ∧ mI M i = mI M0 i ∧ mR M i = mR M0 i ∧ aI M i = aI M0 i
def ej_A (bs : Nat) : Nat → Prop := fun q => bs ≤ q
def ej_WP (D : va_G) (cA : Nat → ClassId) (a0 : Nat → Nat) (bs L : Nat) (xs : Nat → Int32) (M : ej_Mem) (H : Heap) : Prop :=
  va_P D ej_vw (ej_w cA a0 bs M) H ∧ H.size = bs + (mZ M - 59) ∧ 59 ≤ mZ M ∧ ej_CM (ej_M0 L xs) M ∧ (∀ i, mZ M ≤ i → mC M i = 200) ∧ ∀ i, 59 ≤ i → i < mZ M → mC M i < 10 ∨ (100 ≤ mC M i ∧ mC M i ≤ 104)
/-- the cells that stood there before -/
def ej_PE (a0 : Nat → Nat) (bs L : Nat) (xs : Nat → Int32) (U : State) (H : Heap) : Prop := ∀ i, i < 59 →
  (mC (ej_M0 L xs) i = 110 → va_T .int (a0 i) (mN (ej_M0 L xs) i) (fun j => .int (aI (ej_M0 L xs) i j)) (ej_A bs) U H) ∧
  (mC (ej_M0 L xs) i = 111 → va_T .byte (a0 i) (mN (ej_M0 L xs) i) (fun j => .int (aI (ej_M0 L xs) i j)) (ej_A bs) U H) ∧
  (mC (ej_M0 L xs) i = 10 → va_O "java/lang/String" (a0 i) (ej_A bs) U H ∧ va_OF "java/lang/String" "coder" "B" (.int (mI (ej_M0 L xs) i 1)) (a0 i) (ej_A bs) U H ∧
    ∃ v, mR (ej_M0 L xs) i 0 = some v ∧ v < 59 ∧ va_OF "java/lang/String" "value" "[B" (.ref (a0 v)) (a0 i) (ej_A bs) U H)
def ej_ZS (a0 : Nat → Nat) (bs : Nat) (vZ : Value) (U : State) (H : Heap) : Prop :=
  va_Z "FeignedSuit" "MOST_OF_SORT" "[I" (.ref (a0 1)) (ej_A bs) U H ∧ va_Z "FeignedSuit" "PLACE_OF_SORT" "[I" (.ref (a0 2)) (ej_A bs) U H ∧
  va_Z "java/lang/String" "COMPACT_STRINGS" "Z" (.int 1) (ej_A bs) U H ∧ va_Z "jdk/internal/util/Preconditions" "SIOOBE_FORMATTER" "Ljava/util/function/BiFunction;" vZ (ej_A bs) U H
def ej_NW (U : State) : Prop := (∀ e ∈ ej_lkN, va_Nw (.methodLinkNest (ej_cn e.1) e.2.1 (ej_y e.2.2.1) "FeignedSuit") U) ∧
  va_Nw (.fieldLinkNest "FeignedSuit$Land" 21 "FeignedSuit" "MOST_OF_SORT" "[I" "FeignedSuit") U ∧ va_Nw (.fieldLinkNest "FeignedSuit$Land" 63 "FeignedSuit" "PLACE_OF_SORT" "[I" "FeignedSuit") U ∧
  va_Nw (.castable "[I" "java/lang/Cloneable") U ∧ va_AO "FeignedSuit$Writ" U ∧ va_AO "FeignedSuit$Land" U
/-- what holds of the state at a method's entry -/
def ej_SF (D : va_G) (cA : Nat → ClassId) (a0 : Nat → Nat) (bs : Nat) (vZ : Value) (L : Nat) (xs : Nat → Int32) (U : State) (H : Heap) : Prop :=
  va_K D ej_vw (ej_tys cA) U ∧ ej_PE a0 bs L xs U H ∧ (∀ e ∈ ej_lkT, vk_R (ej_cn e.1) e.2.1 e.2.2.2.2 (a0 e.2.2.1) U) ∧ ej_NW U ∧ ej_ZS a0 bs vZ U H ∧ (vZ = .null ∨ ∃ t, vZ = .ref t)
section REP
variable {D : va_G} {cA : Nat → ClassId} {a0 : Nat → Nat} {bs : Nat} {vZ : Value} {L : Nat} {xs : Nat → Int32} {M : ej_Mem} {H : Heap}
theorem pe_keep {U : State} {H1 : Heap} (h : ej_PE a0 bs L xs U H) (hq : ∀ a : Nat, a < H.size → ¬ ej_A bs a → H1[a]? = H[a]?) : ej_PE a0 bs L xs U H1 := by
  intro i hi
  obtain ⟨h1, h2, h3⟩ := h i hi
  refine ⟨fun z => (h1 z).kept hq, fun z => (h2 z).kept hq, fun z => ?_⟩
  obtain ⟨q1, q2, v, q3, q4, q5⟩ := h3 z
  exact ⟨q1.kept hq, q2.kept hq, v, q3, q4, q5.kept hq⟩
theorem pe_move {u U : State} (hvm : u.vm.Alike U.vm) (h : ej_PE a0 bs L xs u H) : ej_PE a0 bs L xs U H := by
  intro i hi
  obtain ⟨h1, h2, h3⟩ := h i hi
  refine ⟨fun z => (h1 z).moved hvm, fun z => (h2 z).moved hvm, fun z => ?_⟩
  obtain ⟨q1, q2, v, q3, q4, q5⟩ := h3 z
  exact ⟨q1.moved hvm, q2.moved hvm, v, q3, q4, q5.moved hvm⟩
theorem zs_keep {U : State} {H1 : Heap} (h : ej_ZS a0 bs vZ U H) (hq : ∀ a : Nat, a < H.size → ¬ ej_A bs a → H1[a]? = H[a]?) : ej_ZS a0 bs vZ U H1 :=
  ⟨h.1.kept hq, h.2.1.kept hq, h.2.2.1.kept hq, h.2.2.2.kept hq⟩
theorem zs_move {u U : State} (hvm : u.vm.Alike U.vm) (h : ej_ZS a0 bs vZ u H) : ej_ZS a0 bs vZ U H :=
  ⟨h.1.moved hvm, h.2.1.moved hvm, h.2.2.1.moved hvm, h.2.2.2.moved hvm⟩
theorem nw_warm {s U : State} (hW : s.WarmedH U.vm) (h : ej_NW s) : ej_NW U :=
  ⟨fun e he => va_Nw.warmM hW (h.1 e he), va_Nw.warmF hW h.2.1, va_Nw.warmF hW h.2.2.1, va_Nw.warmC hW h.2.2.2.1, h.2.2.2.2.1.moved hW.alike, h.2.2.2.2.2.moved hW.alike⟩
theorem nw_same {u U : State} (hv : u.vm = U.vm) (h : ej_NW u) : ej_NW U :=
  ⟨fun e he => va_Nw.same rfl hv (h.1 e he), va_Nw.same rfl hv h.2.1, va_Nw.same rfl hv h.2.2.1, va_Nw.same rfl hv h.2.2.2.1, h.2.2.2.2.1.moved (hv ▸ Vm.Alike.refl u.vm), h.2.2.2.2.2.moved (hv ▸ Vm.Alike.refl u.vm)⟩
/-- at a callee's entry -/
theorem sf_call {s U : State} {locs : List Loc} (h : ej_SF D cA a0 bs vZ L xs s s.heap) (hS : va_S (ej_A bs) s.heap H locs) (hU : U.heap = H) (hW : s.WarmedH U.vm) : ej_SF D cA a0 bs vZ L xs U U.heap := by
  obtain ⟨h1, h2, h3, h4, h5, h6⟩ := h
  rw [hU]
  exact ⟨va_K.moved hW.alike h1, pe_move hW.alike (pe_keep h2 hS.2.1), fun e he => vk_R.warm hW (h3 e he), nw_warm hW h4, zs_move hW.alike (zs_keep h5 hS.2.1), h6⟩
theorem sf_blind {U : State} (g : JFrame) (mk : MethodId) (a : Array Value) (h : ej_SF D cA a0 bs vZ L xs U U.heap) : ej_SF D cA a0 bs vZ L xs (U.calling g mk a) (U.calling g mk a).heap := by
  obtain ⟨h1, h2, h3, h4, h5, h6⟩ := h
  exact ⟨va_K.moved (u := U) (U := U.calling g mk a) (Vm.Alike.refl U.vm) h1, pe_move (u := U) (U := U.calling g mk a) (Vm.Alike.refl U.vm) h2, fun e he => vk_R.same (u := U) rfl (h3 e he), nw_same (u := U) rfl h4, zs_move (u := U) (U := U.calling g mk a) (Vm.Alike.refl U.vm) h5, h6⟩
theorem w_get {o : Nat} (ho : 59 ≤ o) (hz : o < mZ M) : (ej_w cA a0 bs M)[o - 59]? = some (ej_ad a0 bs o, ej_ce cA a0 bs M o) := by
  have h1 : o - 59 < mZ M - 59 := by omega
  have h2 : ¬ o < 59 := by omega
  simp [ej_w, h1, ej_ad, h2, show 59 + (o - 59) = o by omega]
theorem w_lt {k : Nat} {q : Nat × va_E} (h : (ej_w cA a0 bs M)[k]? = some q) : k < mZ M - 59 ∧ q = (bs + k, ej_ce cA a0 bs M (59 + k)) := by
  obtain ⟨h1, h2⟩ := List.getElem?_eq_some_iff.mp h
  have h3 : k < mZ M - 59 := by simpa [ej_w] using h1
  refine ⟨h3, ?_⟩
  rw [← h2]
  simp [ej_w]
theorem w_D : va_D (ej_A bs) (ej_w cA a0 bs M) := by
  refine ⟨fun i j p q hi hj hpq => ?_, fun k q hk => ?_⟩
  · obtain ⟨-, rfl⟩ := w_lt hi
    obtain ⟨-, rfl⟩ := w_lt hj
    have : bs + i = bs + j := hpq
    omega
  · obtain ⟨-, rfl⟩ := w_lt hk
    exact Nat.le_add_right bs k
theorem w_upd {M' : ej_Mem} (hz : mZ M' = mZ M) {o : Nat} (ho : 59 ≤ o) (hlt : o < mZ M) (hne : ∀ i, i ≠ o → ej_ce cA a0 bs M' i = ej_ce cA a0 bs M i) : ej_w cA a0 bs M' = (ej_w cA a0 bs M).set (o - 59) (ej_ad a0 bs o, ej_ce cA a0 bs M' o) := by
  apply List.ext_getElem?
  intro i
  have hl : (ej_w cA a0 bs M).length = mZ M - 59 := by simp [ej_w]
  by_cases hi : i = o - 59
  · subst hi
    rw [List.getElem?_set_self (by rw [hl]; omega), w_get ho (by rw [hz]; exact hlt)]
  · rw [List.getElem?_set_ne (fun h => hi h.symm)]
    by_cases h2 : i < mZ M - 59
    · have e1 : (ej_w cA a0 bs M')[i]? = some (bs + i, ej_ce cA a0 bs M' (59 + i)) := by simp [ej_w, hz, h2]
      have e2 : (ej_w cA a0 bs M)[i]? = some (bs + i, ej_ce cA a0 bs M (59 + i)) := by simp [ej_w, h2]
      rw [e1, e2, hne (59 + i) (by omega)]
    · rw [List.getElem?_eq_none (by simp [ej_w, hz]; omega), List.getElem?_eq_none (by rw [hl]; omega)]
theorem w_push {M' : ej_Mem} (hz : mZ M' = mZ M + 1) (h59 : 59 ≤ mZ M) (hne : ∀ i, i < mZ M → ej_ce cA a0 bs M' i = ej_ce cA a0 bs M i) : ej_w cA a0 bs M' = ej_w cA a0 bs M ++ [(bs + (mZ M - 59), ej_ce cA a0 bs M' (mZ M))] := by
  unfold ej_w
  rw [hz, show mZ M + 1 - 59 = (mZ M - 59) + 1 by omega, List.range_succ, List.map_append]
  congr 1
  · apply List.map_congr_left
    intro i hi
    have := List.mem_range.mp hi
    rw [hne (59 + i) (by omega)]
  · simp [show 59 + (mZ M - 59) = mZ M by omega]
theorem k0_cases (i : Nat) (hi : i < 59) : ej_k0 i = 110 ∨ ej_k0 i = 10 ∨ ej_k0 i = 111 := by
  unfold ej_k0
  by_cases h1 : i < 3
  · exact Or.inl (if_pos h1)
  · by_cases h2 : i < 31
    · exact Or.inr (Or.inl (by rw [if_neg h1, if_pos h2]))
    · exact Or.inr (Or.inr (by rw [if_neg h1, if_neg h2, if_pos hi]))
/-- a cell of my own kind is one that was made -/
theorem wp_id (hW : ej_WP D cA a0 bs L xs M H) {o k : Nat} (hk : mC M o = k) (hn : k < 10 ∨ (100 ≤ k ∧ k ≤ 104)) : 59 ≤ o ∧ o < mZ M := by
  obtain ⟨-, -, h59, hC, h200, hv⟩ := hW
  refine ⟨?_, ?_⟩
  · rcases Nat.lt_or_ge o 59 with h | h
    · have h1 : mC M o = ej_k0 o := (hC o h).1
      rcases k0_cases o h with h2 | h2 | h2 <;> omega
    · exact h
  · rcases Nat.lt_or_ge o (mZ M) with h | h
    · exact h
    · have := h200 o h
      omega
/-- one that stood there -/
theorem wp_c (hW : ej_WP D cA a0 bs L xs M H) {o k : Nat} (hk : mC M o = k) (hn : k = 10 ∨ k = 110 ∨ k = 111) : o < 59 := by
  obtain ⟨-, -, h59, hC, h200, hv⟩ := hW
  rcases Nat.lt_or_ge o 59 with h | h
  · exact h
  · rcases Nat.lt_or_ge o (mZ M) with h2 | h2
    · have := hv o h h2
      omega
    · have := h200 o h2
      omega
end REP
