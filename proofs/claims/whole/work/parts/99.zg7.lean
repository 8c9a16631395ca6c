/-! a text: bounds of what it says -/
def h16 (x : Int32) : Prop := ∀ k, 16 ≤ k → k < 32 → bI x k = false
def TOK (T : Txt) : Prop := h24 (tGv T) ∧ (∀ s, h16 (tTu T s)) ∧ h16 (tLn T) ∧ (0 ≤ tFe T ∧ tFe T ≤ 9999) ∧ 0 ≤ tDy T ∧ tDy T ≤ 999
def COK (st : ClS) : Prop := TOK st.2.2.2.2.2 ∧ (st.2.2.2.1 = false → tDy st.2.2.2.2.2 = 0) ∧ (st.2.2.2.2.1 = false → tFe st.2.2.2.2.2 = 0)
theorem h16.or {x y : Int32} (hx : h16 x) (hy : h16 y) : h16 (x ||| y) := fun k a b => by rw [bI_or, hx k a b, hy k a b]; rfl
theorem h16_0 : h16 0 := fun k _ _ => bI_0 k
theorem h16_b1 {v : Nat} (h : v ≤ 15) : h16 (b1I v) := fun k a b => by
  unfold b1I
  rw [bI_shl (by omega) b, decide_eq_false (by omega)]
theorem h24_31 {x : Int32} (h : h24 x) : bI x 31 = false := by
  obtain ⟨m, hm, rfl⟩ := h
  show ((nI m).toBitVec.toNat).testBit 31 = false
  rw [pk_tn (by omega)]
  exact Nat.testBit_lt_two_pow (by omega)
theorem TOK_0 (so : Nat) : TOK (T0 so) := ⟨h24_0, fun _ => h16_0, h16_0, ⟨(by decide : (0 : Int32) ≤ 0), (by decide : (0 : Int32) ≤ 9999)⟩, (by decide : (0 : Int32) ≤ 0), (by decide : (0 : Int32) ≤ 999)⟩
theorem COK_cls {tp : Nat → Nat} {t so p n c : Nat} {sd sf : Bool} {T : Txt} (hs : so < 2) (h : COK (p, n, c, sd, sf, T)) {st' : ClS} (e : cls tp t so (p, n, c, sd, sf, T) = .inr st') : COK st' := by
  obtain ⟨⟨g1, g2, g3, g4, g5, g6⟩, g7, g8⟩ := h
  have g7 : sd = false → tDy T = 0 := g7
  have g8 : sf = false → tFe T = 0 := g8
  rw [cls_eq] at e
  split at e
  · cases e
  · split at e
    · cases e
    · rename_i nt
      generalize hk : wK tp t so (blk tp t p) = k at *
      unfold clk at e
      split at e
      · split at e
        · cases e
        · cases e; exact ⟨⟨g1, g2, g3, g4, g5, g6⟩, g7, g8⟩
      · rename_i hT
        split at e
        · split at e
          · cases e
            have hr := rts_h24 tp t 401 (blk tp t (lwk tp t (blk tp t p))) 0 h24_0
            show COK (_, _, _, _, _, xSet so k _ T)
            unfold xSet
            split
            · exact ⟨⟨g1.or hr, g2, g3, g4, g5, g6⟩, g7, g8⟩
            · split
              · exact ⟨⟨g1.or hr, g2, g3, g4, g5, g6⟩, g7, g8⟩
              · exact ⟨⟨g1, g2, g3, g4, g5, g6⟩, g7, g8⟩
          · cases e
        · rename_i hR
          split at e
          · rename_i zg
            obtain ⟨_, y2⟩ := nmF_0 zg
            have so0 : so = 0 := by omega
            split at e
            · rename_i z6
              have v15 : (num tp t (blk tp t (lwk tp t (blk tp t p)))).2 ≤ 15 := by
                rw [z6] at y2
                have : mostN 6 = 15 := rfl
                omega
              have trn : ∀ w : Prd, ∀ s, h16 (tTu (xTrn (num tp t (blk tp t (lwk tp t (blk tp t p)))).2 w T) s) := by
                intro w s
                show h16 (tTu T s ||| (if w s = true then b1I _ else 0))
                refine (g2 s).or ?_
                split
                · exact h16_b1 v15
                · exact h16_0
              split at e
              · split at e
                · cases e
                · cases e; exact ⟨⟨g1, trn _, g3, g4, g5, g6⟩, g7, g8⟩
              · cases e; exact ⟨⟨g1, trn _, g3, g4, g5, g6⟩, g7, g8⟩
            · rename_i z6
              cases e
              show COK (_, _, _, _, _, xNum k _ T)
              generalize (num tp t (blk tp t (lwk tp t (blk tp t p)))).2 = v at *
              have zo : ∀ y : Int32, (0 : Int32) ||| y = y := fun y => Int32.zero_or
              unfold xNum
              split
              · rename_i z3
                have d0 : tDy T = 0 := g7 (by
                  cases q : sd with
                  | false => rfl
                  | true => exact absurd (Or.inr ⟨so0, Or.inl ⟨z3, q⟩⟩) nt)
                have v9 : v ≤ 999 := by rw [z3] at y2; have : mostN 3 = 999 := rfl; omega
                refine ⟨⟨g1, g2, g3, g4, ?_, ?_⟩, fun q => ?_, fun q => g8 (Bool.or_eq_false_iff.mp q).1⟩
                · show 0 ≤ tDy T ||| nI v; rw [d0, zo]; exact nI_pos' (by omega)
                · show tDy T ||| nI v ≤ 999; rw [d0, zo]; exact nI_le (b := 999) v9 (by decide)
                · have := (Bool.or_eq_false_iff.mp q).2; rw [decide_eq_true z3] at this; cases this
              · rename_i z3
                split
                · rename_i z4
                  have d0 : tFe T = 0 := g8 (by
                    cases q : sf with
                    | false => rfl
                    | true => exact absurd (Or.inr ⟨so0, Or.inr ⟨z4, q⟩⟩) nt)
                  have v9 : v ≤ 9999 := by rw [z4] at y2; have : mostN 4 = 9999 := rfl; omega
                  refine ⟨⟨g1, g2, g3, ⟨?_, ?_⟩, g5, g6⟩, fun q => g7 (Bool.or_eq_false_iff.mp q).1, fun q => ?_⟩
                  · show 0 ≤ tFe T ||| nI v; rw [d0, zo]; exact nI_pos' (by omega)
                  · show tFe T ||| nI v ≤ 9999; rw [d0, zo]; exact nI_le (b := 9999) v9 (by decide)
                  · have := (Bool.or_eq_false_iff.mp q).2; rw [decide_eq_true z4] at this; cases this
                · rename_i z4
                  have v15 : v ≤ 15 := by
                    have : mostN k = 15 := by unfold mostN; rw [if_neg z3, if_neg z4]
                    omega
                  exact ⟨⟨g1, g2, g3.or (h16_b1 v15), g4, g5, g6⟩, fun q => g7 (Bool.or_eq_false_iff.mp q).1, fun q => g8 (Bool.or_eq_false_iff.mp q).1⟩
          · cases e
theorem TOK_run {tp : Nat → Nat} {t so : Nat} (hs : so < 2) : ∀ (m : Nat) (st : ClS) {n c : Nat} {T : Txt}, COK st → clrun tp t so m st = .inr (n, c, T) → TOK T
  | 0, st, n, c, T, h, e => by cases e
  | m + 1, st, n, c, T, h, e => by
    unfold clrun at e
    split at e
    · cases e
    · rename_i st' hc
      have C := COK_cls hs (p := st.1) (n := st.2.1) (c := st.2.2.1) (sd := st.2.2.2.1) (sf := st.2.2.2.2.1) (T := st.2.2.2.2.2) h hc
      split at e
      · split at e
        · exact TOK_run hs m (blk tp t st'.1 + 1, st'.2) C e
        · cases e
      · cases e; exact C.1
theorem TOK_ptx {tp : Nat → Nat} {t so n c : Nat} {T : Txt} (e : ptx tp t so = .inr (n, c, T)) : TOK T := by
  unfold ptx at e
  split at e
  · rename_i hs
    exact TOK_run hs 14 (0, 0, 0, false, false, T0 so) ⟨TOK_0 so, fun _ => rfl, fun _ => rfl⟩ e
  · split at e
    · cases e
    · split at e
      · cases e
      · cases e
        exact ⟨h24_0, fun _ => h16_0, h16_0, ⟨(by decide : (0 : Int32) ≤ 0), (by decide : (0 : Int32) ≤ 9999)⟩, (by decide : (0 : Int32) ≤ 0), (by decide : (0 : Int32) ≤ 999)⟩
/-! the view after a text -/
def addT (V : View) (so : Nat) (T : Txt) : View := (fun k => if k = so then vN V so + 1 else vN V k, fun k i => if k = so ∧ i = vN V so then T else vT V k i, fun m => if so = 0 ∧ m = vN V 0 then (0, 2999) else vO V m, vF V, vH V, V.2.2.2.2.2.1, V.2.2.2.2.2.2)
theorem addT_N (V : View) (so : Nat) (T : Txt) (k : Nat) : vN (addT V so T) k = if k = so then vN V so + 1 else vN V k := rfl
theorem addT_T (V : View) (so : Nat) (T : Txt) (k i : Nat) : vT (addT V so T) k i = if k = so ∧ i = vN V so then T else vT V k i := rfl
theorem addT_ge (V : View) (so : Nat) (T : Txt) (k : Nat) : vN V k ≤ vN (addT V so T) k := by rw [addT_N]; split; rename_i z; rw [z]; omega; exact Nat.le_refl _
theorem VOK_addT {V : View} (h : VOK V) {so : Nat} (hs : so < 4) (hm : vN V so < mst so) {T : Txt} (hT : TOK T) : VOK (addT V so T) := by
  obtain ⟨h1, h2, h3, h4, h5, h6⟩ := h
  obtain ⟨t1, t2, t3, t4, t5, t6⟩ := hT
  have old : ∀ k i, i < vN (addT V so T) k → ¬ (k = so ∧ i = vN V so) → i < vN V k := by
    intro k i hi q
    rw [addT_N] at hi
    split at hi
    · rename_i z
      rw [z]
      have : i ≠ vN V so := fun y => q ⟨z, y⟩
      omega
    · exact hi
  have ge := addT_ge V so T
  refine ⟨fun k hk => ?_, fun m hm' => ?_, fun g hg' => ?_, ⟨h4.1, fun r hr => ?_⟩, ?_, h6⟩
  · rw [addT_N]
    split
    · rename_i z; rw [z]; omega
    · exact h1 k hk
  · rw [addT_T]
    by_cases q : 0 = so ∧ m = vN V so
    · rw [if_pos q]; exact ⟨h24_31 t1, t2, t3, t4, t5, t6⟩
    · rw [if_neg q]; exact h2 m (old 0 m hm' q)
  · rw [addT_T]
    by_cases q : 1 = so ∧ g = vN V so
    · rw [if_pos q]; exact h24_31 t1
    · rw [if_neg q]; exact h3 g (old 1 g hg' q)
  · obtain ⟨a, b, c⟩ := h4.2 r hr
    exact ⟨Nat.lt_of_lt_of_le a (ge 1), b, fun m hm' => Nat.lt_of_lt_of_le (c m hm') (ge 0)⟩
  · rcases h5 with a | ⟨a, b, c, d⟩
    · exact Or.inl a
    · exact Or.inr ⟨a, b, Nat.lt_of_lt_of_le c (ge 1), Nat.lt_of_lt_of_le d (ge 2)⟩
