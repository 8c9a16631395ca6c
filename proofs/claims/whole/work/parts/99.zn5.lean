/-! the class: what is read is set down -/
/-- a new row of numbers -/
def CpA (M M' : ej_Mem) (n : Nat) (f : Nat → Int32) : Prop := mZ M' = mZ M + 1 ∧ mS M' = mS M + n ∧ (mC M' (mZ M) = 100 ∧ mN M' (mZ M) = n ∧ ∀ x, x < n → aI M' (mZ M) x = f x) ∧ ∀ P, FrG P M M'
theorem FrG.setF {P : Nat → Nat → Prop} (M : ej_Mem) {o : Nat} (f : Nat → Int32) (hp : ∀ k, P o k) : FrG P M (setF M o f) := by
  refine ⟨Nat.le_refl _, fun _ _ => ⟨rfl, rfl⟩, fun q hq k hk => ⟨rfl, rfl, rfl, ?_, rfl⟩⟩
  show (if q = o then f else aI M q) k = aI M q k
  rw [if_neg (fun z => hk (by rw [z]; exact hp k))]
theorem FrG_nil {M M' : ej_Mem} {P : Nat → Nat → Prop} (f : FrG (fun o _ => o = mZ M) M M') : FrG P M M' := f.mono (fun o k ho q => by omega)
theorem c_copyOf {D : Nat} (hD : 1 ≤ D) {M : ej_Mem} {a n L : Nat} (hc : mC M a = 100) (hL : mN M a = L) (hn : n ≤ L) (hb : L ≤ 1000) (ha : a < mZ M) : ∃ M', cal D jm_Arrs_copyOf_59c91 [.ref a, .int (nI n)] M = some (some (.ref (mZ M)), M') ∧ CpA M M' n (aI M a) := by
  obtain ⟨d, rfl⟩ : ∃ d, D = d + 1 := ⟨D - 1, by omega⟩
  have az : ¬ a = mZ M := by omega
  have cz : ∀ k j s, mC (newM M k j s) (mZ M) = k := fun k j s => by simp only [MR, reduceIte]
  have nz : ∀ k j s, mN (newM M k j s) (mZ M) = j := fun k j s => by simp only [MR, reduceIte]
  have ca : ∀ k j s, mC (newM M k j s) a = 100 := fun k j s => by simp only [MR, if_neg az]; exact hc
  have na : ∀ k j s, mN (newM M k j s) a = L := fun k j s => by simp only [MR, if_neg az]; exact hL
  have aa : ∀ k j s, aI (newM M k j s) a = aI M a := fun k j s => by simp only [MR, if_neg az]
  rw [ca_Arrs_copyOf_59c91, eq_Arrs_copyOf_59c91_0, ckk_t ⟨by omega, by omega⟩, hL]
  by_cases z : n = L
  · subst z
    rw [if_pos (show nI n = Int32.ofNat n from rfl), ckk_t ⟨hc, by decide⟩]
    have e1 : mC (cloneM M a) (mZ M) = 100 := cz 100 (mN M a) (mN M a)
    rw [ckk_t e1]
    refine ⟨_, rfl, rfl, ?_, ⟨e1, ?_, fun x _ => ?_⟩, fun P => FrG_nil ((FrG.new _ M _ _ _).trans (FrG.setF _ _ (fun _ => rfl)))⟩
    · show mS M + mN M a = _; rw [hL]
    · show mN (newM M 100 (mN M a) (mN M a)) (mZ M) = n; rw [nz, hL]
    · show (if mZ M = mZ M then aI M a else _) x = _; rw [if_pos rfl]
  · have l1 : nI n < nI L := nI_lt (by omega) (by omega)
    rw [if_neg (show ¬ nI n = Int32.ofNat L from fun q => z ((nI_eq (by omega) (by omega)).mp (show nI n = nI L from q))), ckk_t ⟨nI_pos (by omega), by rw [nI_clamp (by omega)]; omega⟩, nI_clamp (by omega), ca, cz, na, ckk_t ⟨by decide, by decide⟩, ckk_t (show ej_cats [.int (0 : Int32), .ref (mZ M), .int (0 : Int32), .ref a] ≤ 8 from Nat.le_of_ble_eq_true rfl), ckk_t ⟨rfl, rfl, by decide⟩, nz, if_pos (show nI n < Int32.ofNat L from l1), nI_clamp (by omega), ckk_t ⟨by decide, by decide, nI_pos (by omega), by show 0 + n ≤ L; omega, by show 0 + n ≤ n; omega⟩]
    have f0 : ∀ k, aI (cpyM (newM M 100 n n) a 0 (mZ M) 0 n) (mZ M) k = if k < n then aI M a k else 0 := fun k => by
      show (if mZ M = mZ M then va_cpy (aI (newM M 100 n n) a) (aI (newM M 100 n n) (mZ M)) 0 0 n else _) k = _
      rw [if_pos rfl, aa]
      unfold va_cpy
      simp only [MR, reduceIte, Nat.zero_le, true_and, Nat.zero_add, Nat.sub_zero]
    refine ⟨_, rfl, rfl, rfl, ⟨cz 100 n n, nz 100 n n, fun x hx => ?_⟩, fun P => FrG_nil ((FrG.new _ M 100 n n).trans ?_)⟩
    · have := f0 x
      rw [if_pos hx] at this
      exact this
    · refine ⟨Nat.le_refl _, fun _ _ => ⟨rfl, rfl⟩, fun q hq k hk => ⟨rfl, rfl, rfl, ?_, rfl⟩⟩
      show (if q = mZ M then _ else aI (newM M 100 n n) q) k = aI (newM M 100 n n) q k
      rw [if_neg hk]
theorem tnC_snoc (M : ej_Mem) (w : Nat) (s : Int32) : ∀ n j acc, tnC M w s (n + 1) j acc = (if cTst M w (aI M (wTn M w) (2 * (j + n) + 1)) s = true then tnC M w s n j acc ||| (1 <<< (aI M (wTn M w) (2 * (j + n)) &&& 31)) else tnC M w s n j acc)
  | 0, j, acc => rfl
  | n + 1, j, acc => by
    show tnC M w s (n + 1) (j + 1) _ = _
    rw [tnC_snoc M w s n (j + 1) _, show j + 1 + n = j + (n + 1) by omega]
    rfl
theorem TnR_tn {M : ej_Mem} {w c : Nat} {F U : Nat → Int32} (hf : mN M (wFc M w) = 5 * c) (hF : aI M (wFc M w) = F) (s : Int32) : ∀ (J : Nat) (g : Int32 → Int32), (∀ x, x < 2 * J → aI M (wTn M w) x = U x) → TnR F U c J g → tnC M w s J 0 0 = g s
  | 0, g, hu, h => (h s).symm
  | J + 1, g, hu, h => by
    obtain ⟨v, w', g', h1, h2, h3, h4, h5⟩ := h
    rw [tnC_snoc, TnR_tn hf hF s J g' (fun x hx => hu x (by omega)) h4, h5 s, Nat.zero_add, hu _ (by omega), hu _ (by omega), h2]
    have e : cTst M w (U (2 * J + 1)) s = w' s := by
      unfold cTst
      rw [hf, hF, show 5 * c / 5 = c by omega]
      exact h3.ev s
    rw [e]
    cases w' s with
    | true => rfl
    | false => rw [if_neg Bool.false_ne_true, if_neg Bool.false_ne_true, Int32.or_zero]
theorem TnR_tgt {F U : Nat → Int32} {c : Nat} : ∀ (J : Nat) (g : Int32 → Int32), TnR F U c J g → ∀ j, j < J → tgt c (U (2 * j + 1))
  | 0, g, h, j, hj => by omega
  | J + 1, g, h, j, hj => by
    obtain ⟨v, w', g', h1, h2, h3, h4, h5⟩ := h
    by_cases z : j = J
    · subst z; exact h3.1
    · exact TnR_tgt J g' h4 j (by omega)
/-- the writ that was read says what the text says -/
theorem wr_txt {M : ej_Mem} {wr f u c J : Nat} {T : Txt} {F U : Nat → Int32} (a1 : mC M wr = 7) (a2 : mR M wr 6 = some f) (a3 : mR M wr 7 = some u) (a4 : mC M f = 100 ∧ mN M f = 5 * c ∧ ∀ x, x < 5 * c → aI M f x = F x) (a5 : mC M u = 100 ∧ mN M u = 2 * J ∧ ∀ x, x < 2 * J → aI M u x = U x) (hc : c ≤ 60) (hJ : J ≤ 12) (hC : CodeOK F c) (hE : CEn F c (mI M wr 5) (tTs T)) (hT : TnR F U c J (tTu T)) (i0 : mI M wr 0 = tGv T) (i1 : mI M wr 1 = tEn T) (i2 : mI M wr 2 = tDy T) (i3 : mI M wr 3 = tFe T) (i4 : mI M wr 4 = tLn T) (b31 : bI (tGv T) 31 = false) : WA M wr ∧ cTxt M wr = T := by
  have ef : wFc M wr = f := by unfold wFc; rw [a2]; rfl
  have eu : wTn M wr = u := by unfold wTn; rw [a3]; rfl
  have hC' : CodeOK (aI M f) c := fun i hi => by rw [a4.2.2 _ (by omega), a4.2.2 _ (by omega)]; exact hC i hi
  have hE' : CEn (aI M f) c (mI M wr 5) (tTs T) := hE.cg hc hC a4.2.2 (Nat.le_refl _)
  have hT' : TnR (aI M f) (aI M u) c J (tTu T) := hT.cg hc hC a4.2.2 (Nat.le_refl _) J _ a5.2.2
  refine ⟨⟨a1, by rw [ef]; exact a2, by rw [eu]; exact a3, by rw [ef]; exact a4.1, by rw [eu]; exact a5.1, by rw [i0]; exact b31, c, by rw [ef]; exact a4.2.1, hc, by rw [ef]; exact hC', hE'.1, J, by rw [eu]; exact a5.2.1, hJ, fun j hj => by rw [eu]; exact TnR_tgt J _ hT' j hj⟩, ?_⟩
  have e6 : (fun s => cTst M wr (mI M wr 5) s) = tTs T := by
    funext s
    unfold cTst
    rw [ef, a4.2.1, show 5 * c / 5 = c by omega]
    exact hE'.ev s
  have e7 : (fun s => tnC M wr s (mN M (wTn M wr) / 2) 0 0) = tTu T := by
    funext s
    rw [eu, a5.2.1, show 2 * J / 2 = J by omega]
    exact TnR_tn (F := aI M f) (U := aI M u) (by rw [ef]; exact a4.2.1) (by rw [ef]) s J _ (fun x _ => by rw [eu]) hT'
  unfold cTxt
  rw [e6, e7, i0, i1, i2, i3, i4]
