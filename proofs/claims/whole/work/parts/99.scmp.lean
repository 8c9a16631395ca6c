/-! what is compared: the numbers of both sides -/
def h24 (x : Int32) : Prop := ∃ m, m < 2 ^ 24 ∧ x = nI m
theorem nI_or {a b : Nat} (ha : a < 2 ^ 32) (hb : b < 2 ^ 32) : nI a ||| nI b = nI (a ||| b) := by
  apply Int32.toBitVec_inj.mp
  apply BitVec.eq_of_toNat_eq
  rw [Int32.toBitVec_or, BitVec.toNat_or, pk_tn ha, pk_tn hb, pk_tn (Nat.or_lt_two_pow ha hb)]
theorem h24.or {x y : Int32} (hx : h24 x) (hy : h24 y) : h24 (x ||| y) := by
  obtain ⟨a, ha, rfl⟩ := hx
  obtain ⟨b, hb, rfl⟩ := hy
  exact ⟨a ||| b, Nat.or_lt_two_pow ha hb, nI_or (by omega) (by omega)⟩
theorem rb_dec : ∀ i, i < 24 → rb (65 + i) = nI (2 ^ i) ∧ 2 ^ i < 2 ^ 24 := by decide +kernel
theorem h24_rb {c : Nat} (h : inr 65 88 c = true) : h24 (rb c) := by
  have := of_decide_eq_true h
  obtain ⟨e, l⟩ := rb_dec (c - 65) (by omega)
  rw [show 65 + (c - 65) = c by omega] at e
  exact ⟨_, l, e⟩
theorem h24_0 : h24 0 := ⟨0, by decide, rfl⟩
theorem rts_h24 (tp : Nat → Nat) (t : Nat) : ∀ n p a, h24 a → h24 (rts tp t n p a).2
  | 0, p, a, h => h
  | n + 1, p, a, h => by
    unfold rts
    split
    · rename_i q; exact rts_h24 tp t n _ _ (h.or (h24_rb q))
    · exact h
theorem pcn_lt : ∀ m n x, x < 2 ^ n → pcn m x ≤ n
  | 0, n, x, h => Nat.zero_le _
  | m + 1, n, x, h => by
    cases n with
    | zero =>
      have : x = 0 := by simpa using h
      subst this
      have := pcn_lt m 0 0 (by decide)
      show 0 % 2 + pcn m (0 / 2) ≤ 0
      simpa using this
    | succ n =>
      have := pcn_lt m n (x / 2) (by rw [Nat.pow_succ] at h; omega)
      show x % 2 + pcn m (x / 2) ≤ n + 1
      omega
theorem pc_24 {set : Int32} (h : h24 set) (s : Int32) : pc (s &&& set) ≤ 24 := by
  obtain ⟨m, hm, rfl⟩ := h
  unfold pc
  apply pcn_lt
  rw [Int32.toBitVec_and, BitVec.toNat_and, pk_tn (by omega)]
  exact Nat.and_lt_two_pow _ hm
theorem set24 {m n : Nat} (hm : m < 2 ^ 24) (hn : n ≤ 24) : (nI m ||| (nI n <<< ((24 : Int32) &&& 31))) &&& 16777215 = nI m ∧ (nI m ||| (nI n <<< ((24 : Int32) &&& 31))) >>> ((24 : Int32) &&& 31) = nI n := by
  have e1 : nI n <<< ((24 : Int32) &&& 31) = nI (n * 2 ^ 24) := pk_shlN _ 24 (by decide) (by omega)
  have e2 : m ||| n * 2 ^ 24 = 2 ^ 24 * n + m := by
    rw [Nat.or_comm, Nat.mul_comm n, ← Nat.two_pow_add_eq_or_of_lt hm]
  have hlt : 2 ^ 24 * n + m < 2 ^ 31 := by omega
  rw [e1, nI_or (by omega) (by omega), e2]
  refine ⟨?_, ?_⟩
  · rw [pk_andN (by omega) 24 (by decide)]
    congr 1
    rw [Nat.mul_add_mod, Nat.mod_eq_of_lt hm]
  · rw [pk_shrN hlt _ 24 (by decide)]
    congr 1
    omega
theorem m24 {m : Nat} (hm : m < 2 ^ 24) : nI m &&& 16777215 = nI m := by
  rw [pk_andN (by omega) 24 (by decide), Nat.mod_eq_of_lt hm]
/-- the reference's sort of entry -/
def kdI (c : Nat) (eq : Bool) : Int32 := if c = 61 then 6 else if c = 60 then (if eq = true then 5 else 4) else (if eq = true then 7 else 8)
theorem cm_dec : ∀ n, n < 25 → ∀ p, p < 25 → decide (nI p = nI n) = decide (nI n + 0 ≤ nI p ∧ nI p ≤ nI n - 0) ∧ decide (nI p ≤ nI n) = decide ((0 : Int32) ≤ nI p ∧ nI p ≤ nI n - 0) ∧ decide (nI p < nI n) = decide ((0 : Int32) ≤ nI p ∧ nI p ≤ nI n - 1) ∧ decide (nI n ≤ nI p) = decide (nI n + 0 ≤ nI p ∧ nI p ≤ 24) ∧ decide (nI n < nI p) = decide (nI n + 1 ≤ nI p ∧ nI p ≤ 24) := by decide +kernel
theorem c1_dec : ∀ p, p < 25 → decide (nI p = 1) = decide ((1 : Int32) ≤ nI p ∧ nI p ≤ 1) := by decide +kernel
theorem cnt_right {set : Int32} (h : h24 set) (s : Int32) : cntB 0 set s = fP set 1 1 s := by
  have l := pc_24 h s
  obtain ⟨m, hm, rfl⟩ := h
  unfold cntB fP
  rw [if_pos rfl, m24 hm, Int32.and_comm]
  exact c1_dec _ (by omega)
theorem cnt_of {set : Int32} (h : h24 set) {c n : Nat} (hc : c = 60 ∨ c = 61 ∨ c = 62) (hn : n ≤ 24) {eq : Bool} (s : Int32) : cntB (kdI c eq) (set ||| (nI n <<< ((24 : Int32) &&& 31))) s = fP set (loI c (decide (c = 61) || eq) n) (hiI c (decide (c = 61) || eq) n) s := by
  have l := pc_24 h s
  obtain ⟨m, hm, rfl⟩ := h
  obtain ⟨e1, e2⟩ := set24 hm hn
  obtain ⟨d1, d2, d3, d4, d5⟩ := cm_dec n (by omega) (pc (s &&& nI m)) (by omega)
  have key : ∀ (k lo hi : Int32) (b : Bool), kdI c eq = k → loI c (decide (c = 61) || eq) n = lo → hiI c (decide (c = 61) || eq) n = hi → (∀ x y : Int32, x = nI (pc (s &&& nI m)) → y = nI n → (if k = 0 then decide (x = 1) else if k = 4 then decide (x < y) else if k = 5 then decide (x ≤ y) else if k = 6 then decide (x = y) else if k = 7 then decide (y ≤ x) else decide (y < x)) = b) → b = decide (lo ≤ nI (pc (s &&& nI m)) ∧ nI (pc (s &&& nI m)) ≤ hi) → cntB (kdI c eq) (nI m ||| (nI n <<< ((24 : Int32) &&& 31))) s = fP (nI m) (loI c (decide (c = 61) || eq) n) (hiI c (decide (c = 61) || eq) n) s := by
    intro k lo hi b h1 h2 h3 h4 h5
    rw [h1, h2, h3]
    unfold cntB fP
    rw [e1, e2, Int32.and_comm (nI m) s, ← h5]
    exact h4 _ _ rfl rfl
  rcases hc with rfl | rfl | rfl
  · cases eq
    · exact key 4 0 (nI n - 1) _ rfl rfl rfl (fun x y h1 h2 => by rw [if_neg (by decide), if_pos rfl, h1, h2]) d3
    · exact key 5 0 (nI n - 0) _ rfl rfl rfl (fun x y h1 h2 => by rw [if_neg (by decide), if_neg (by decide), if_pos rfl, h1, h2]) d2
  · cases eq
    · exact key 6 (nI n + 0) (nI n - 0) _ rfl rfl rfl (fun x y h1 h2 => by rw [if_neg (by decide), if_neg (by decide), if_neg (by decide), if_pos rfl, h1, h2]) d1
    · exact key 6 (nI n + 0) (nI n - 0) _ rfl rfl rfl (fun x y h1 h2 => by rw [if_neg (by decide), if_neg (by decide), if_neg (by decide), if_pos rfl, h1, h2]) d1
  · cases eq
    · exact key 8 (nI n + 1) 24 _ rfl rfl rfl (fun x y h1 h2 => by rw [if_neg (by decide), if_neg (by decide), if_neg (by decide), if_neg (by decide), if_neg (by decide), h1, h2]) d5
    · exact key 7 (nI n + 0) 24 _ rfl rfl rfl (fun x y h1 h2 => by rw [if_neg (by decide), if_neg (by decide), if_neg (by decide), if_neg (by decide), if_pos rfl, h1, h2]) d4
theorem kd_ne (c : Nat) (eq : Bool) : kdI c eq ≠ 9 ∧ kdI c eq ≠ 10 ∧ kdI c eq ≠ 11 := by
  unfold kdI
  split
  · decide
  · split
    · cases eq <;> decide
    · cases eq <;> decide
/-! bounds -/
theorem flt_pos (c q : Nat) : flt c q ≠ 0 := by unfold flt; omega
theorem nmF_0 {tp : Nat → Nat} {t most p : Nat} (h : nmF tp t most p 0 = 0) : (num tp t (blk tp t p)).1 ≠ 0 ∧ ¬ (5 < (num tp t (blk tp t p)).1 ∨ most < (num tp t (blk tp t p)).2) := by
  unfold nmF orF at h
  split at h
  · exact absurd h (flt_pos _ _)
  · rename_i q
    split at h
    · exact absurd h (flt_pos _ _)
    · rename_i r; exact ⟨q, r⟩
theorem nmF_f {tp : Nat → Nat} {t most p f : Nat} (hf : f ≠ 0) : nmF tp t most p f = f := by
  unfold nmF orF
  rw [if_neg hf, if_neg hf]
  split
  · rfl
  · split <;> rfl
theorem num_le {tp : Nat → Nat} {t b : Nat} (hb : b ≤ t) : b + (num tp t b).1 ≤ t ∧ (num tp t b).2 < 100000 := by
  have := dg_ok tp t b 401 0 0 (by omega) (by decide)
  exact ⟨this.2.1, this.1⟩
theorem cmN_le {tp : Nat → Nat} {t r : Nat} (h : sg tp t r = 60 ∨ sg tp t r = 61 ∨ sg tp t r = 62) : r < t ∧ r < cmN tp t r ∧ cmN tp t r ≤ t := by
  have rt : r < t := by rcases h with h | h | h <;> exact sg_lt h (by decide)
  unfold cmN
  split
  · rename_i q
    have := (of_decide_eq_true q).2
    have := sg_lt this (by decide)
    exact ⟨rt, by omega, by omega⟩
  · exact ⟨rt, by omega, by omega⟩
theorem cmR_le {tp : Nat → Nat} {t q : Nat} (h : q + 2 ≤ t) : q + 2 ≤ (cmR tp t q).1 ∧ (cmR tp t q).1 ≤ t := by
  have g := bl_ge tp t 401 (q + 2)
  have l := bl_le tp t 401 (q + 2) h
  refine ⟨?_, rts_le tp t 401 _ _ l⟩
  have : ∀ n p a, p ≤ (rts tp t n p a).1 := by
    intro n
    induction n with
    | zero => intro p a; exact Nat.le_refl _
    | succ n ih =>
      intro p a
      unfold rts
      split
      · have := ih (blk tp t (p + 1)) (a ||| rb (sg tp t p))
        have := bl_ge tp t 401 (p + 1)
        unfold blk at *
        omega
      · exact Nat.le_refl _
  have := this 401 (blk tp t (q + 2)) 0
  unfold cmR
  unfold blk at *
  omega
theorem cmp_ok {tp : Nat → Nat} {t q c p' : Nat} {set lo hi : Int32} (hq : q ≤ t) (h : cmp tp t q c = .inr (p', set, lo, hi)) : q < p' ∧ p' ≤ t ∧ c ≠ 60 := by
  unfold cmp at h
  split at h
  · rename_i r
    have := inr_lt (by decide) r
    split at h
    · cases h
    · rename_i z; cases h; exact ⟨by omega, by omega, z⟩
  · split at h
    · rename_i w
      have w2 : q + 2 ≤ t := stw_le hq w
      split at h
      · cases h
      · rename_i z
        split at h
        · have r1 := cmR_le (tp := tp) w2
          unfold cmC at h
          split at h
          · rename_i s
            have n1 := cmN_le s
            split at h
            · have b1 := bl_ge tp t 401 (cmN tp t (cmR tp t q).1)
              have b2 := bl_le tp t 401 (cmN tp t (cmR tp t q).1) n1.2.2
              have k1 := (num_le (tp := tp) b2).1
              cases h
              unfold blk at *
              exact ⟨by omega, by omega, z⟩
            · cases h
          · cases h
        · cases h
    · cases h
theorem cmp_fl {tp : Nat → Nat} {t q c g : Nat} (h : cmp tp t q c = .inl g) : g ≠ 0 := by
  unfold cmp at h
  split at h
  · split at h
    · cases h; exact flt_pos _ _
    · cases h
  · split at h
    · split at h
      · cases h; exact flt_pos _ _
      · split at h
        · unfold cmC at h
          split at h
          · split at h
            · cases h
            · rename_i z; cases h; exact z
          · cases h; exact flt_pos _ _
        · cases h; exact flt_pos _ _
    · cases h; exact flt_pos _ _
