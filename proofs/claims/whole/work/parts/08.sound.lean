/-! my table of instructions against the decoded ones, and one step's soundness: written by wip/gen/snd.py -/
theorem uI_some {st : List Value} {k : Int32 → List Value → Option ej_R} {r : ej_R} (h : uI st k = some r) : ∃ x s1, st = .int x :: s1 ∧ k x s1 = some r := by
  unfold uI at h; split at h
  · exact ⟨_, _, rfl, h⟩
  · cases h
theorem uL_some {st : List Value} {k : Int64 → List Value → Option ej_R} {r : ej_R} (h : uL st k = some r) : ∃ x s1, st = .long x :: s1 ∧ k x s1 = some r := by
  unfold uL at h; split at h
  · exact ⟨_, _, rfl, h⟩
  · cases h
theorem uR_some {st : List Value} {k : Nat → List Value → Option ej_R} {r : ej_R} (h : uR st k = some r) : ∃ x s1, st = .ref x :: s1 ∧ k x s1 = some r := by
  unfold uR at h; split at h
  · exact ⟨_, _, rfl, h⟩
  · cases h
theorem uQ_some {st : List Value} {k : Option Nat → List Value → Option ej_R} {r : ej_R} (h : uQ st k = some r) : ∃ x s1, st = va_rf x :: s1 ∧ k x s1 = some r := by
  unfold uQ at h; split at h
  · exact ⟨some _, _, rfl, h⟩
  · exact ⟨none, _, rfl, h⟩
  · cases h
theorem uV_some {st : List Value} {k : Value → List Value → Option ej_R} {r : ej_R} (h : uV st k = some r) : ∃ x s1, st = x :: s1 ∧ x.category = 1 ∧ k x s1 = some r := by
  unfold uV at h; split at h
  · exact ⟨_, _, rfl, rfl, h⟩
  · exact ⟨_, _, rfl, rfl, h⟩
  · exact ⟨_, _, rfl, rfl, h⟩
  · cases h
theorem uW_some {a0 : Nat → Nat} {bs : Nat} {vZ v : Value} {k : Option ej_R} {r : ej_R} (hz : vZ = .null ∨ ∃ t, vZ = .ref t) (h : uW v k = some r) : (ej_tr a0 bs vZ v = .null ∨ ∃ q, ej_tr a0 bs vZ v = .ref q) ∧ k = some r := by
  unfold uW at h; split at h
  · exact ⟨Or.inr ⟨_, rfl⟩, h⟩
  · exact ⟨Or.inl rfl, h⟩
  · exact ⟨hz, h⟩
  · cases h
theorem ld_some {ls : ej_L} {i : Nat} {k : Value → Option ej_R} {r : ej_R} (h : ej_ld ls i k = some r) : ∃ v, ls.getD i none = some v ∧ k v = some r := by
  unfold ej_ld at h; split at h
  · rename_i v hv; exact ⟨v, hv, h⟩
  · cases h
theorem ckk_some {c : Prop} [Decidable c] {k : Option ej_R} {r : ej_R} (h : ckk c k = some r) : c ∧ k = some r := by
  unfold ckk at h; split at h
  · rename_i hc; exact ⟨hc, h⟩
  · cases h
theorem ckn_some {a : Nat} {x : Int32} {k : Option ej_R} {r : ej_R} (h : ej_ckn a x k = some r) : ej_nar a x ∧ k = some r := by
  unfold ej_ckn at h; split at h
  · exact ⟨trivial, h⟩
  · obtain ⟨h1, h2⟩ := ckk_some h; exact ⟨h1, h2⟩
  · obtain ⟨h1, h2⟩ := ckk_some h
    refine ⟨?_, h2⟩
    show Value.int x.toInt8.toInt32 = .int x
    rw [h1]
  · rename_i h0 h1 h2
    obtain ⟨g1, g2⟩ := ckk_some h
    refine ⟨?_, g2⟩
    unfold ej_nar
    split
    · trivial
    · exact absurd rfl h1
    · exact absurd rfl h2
    · show Value.int _ = _
      rw [show (x.toUInt32.toUInt16.toUInt32).toInt32 = (x.toUInt32 % 65536).toInt32 from by
        have e1 := pk_nc x
        have e2 : narrow .char (.int (x.toUInt32 % 65536).toInt32) = .int ((x.toUInt32 % 65536).toInt32.toUInt32.toUInt16.toUInt32).toInt32 := rfl
        rw [e2, g1] at e1
        rw [g1]
        exact Value.int.inj e1, g1]
theorem ckq_some {M : ej_Mem} {a : Nat} {q : Option Nat} {k : Option ej_R} {r : ej_R} (h : ej_ckq M a q k = some r) : (∀ v, q = some v → mC M v = ej_el a) ∧ k = some r := by
  unfold ej_ckq at h; split at h
  · exact ⟨fun v hv => (by cases hv), h⟩
  · obtain ⟨h1, h2⟩ := ckk_some h
    exact ⟨fun v hv => by cases hv; exact h1, h2⟩
theorem deR_some {q : Option Nat} {k : Nat → Option ej_R} {r : ej_R} (h : deR q k = some r) : ∃ a, q = some a ∧ k a = some r := by
  unfold deR at h; split at h
  · exact ⟨_, rfl, h⟩
  · cases h
theorem deQ_rf {q : Option Nat} {k : List Value → Option ej_R} {s1 : List Value} {r : ej_R} (h : deQ q (k (.null :: s1)) (fun a => k (.ref a :: s1)) = some r) : k (va_rf q :: s1) = some r := by
  cases q <;> exact h
theorem bkV_some {x : Option ej_R} {k : ej_Mem → Option ej_R} {r : ej_R} (h : bkV x k = some r) : ∃ M, x = some (none, M) ∧ k M = some r := by
  unfold bkV at h; split at h
  · exact ⟨_, rfl, h⟩
  · cases h
theorem bkI_some {x : Option ej_R} {k : Int32 → ej_Mem → Option ej_R} {r : ej_R} (h : bkI x k = some r) : ∃ y M, x = some (some (.int y), M) ∧ k y M = some r := by
  unfold bkI at h; split at h
  · exact ⟨_, _, rfl, h⟩
  · cases h
theorem bkJ_some {x : Option ej_R} {k : Int64 → ej_Mem → Option ej_R} {r : ej_R} (h : bkJ x k = some r) : ∃ y M, x = some (some (.long y), M) ∧ k y M = some r := by
  unfold bkJ at h; split at h
  · exact ⟨_, _, rfl, h⟩
  · cases h
theorem bkQ_some {x : Option ej_R} {k : Value → ej_Mem → Option ej_R} {r : ej_R} (h : bkQ x (k .null) (fun a => k (.ref a)) = some r) : ∃ q M, x = some (some (va_rf q), M) ∧ k (va_rf q) M = some r := by
  unfold bkQ at h; split at h
  · exact ⟨some _, _, rfl, h⟩
  · exact ⟨none, _, rfl, h⟩
  · cases h
theorem or_nat {a x y : Nat} (h : Nat.beq a x = true ∨ Nat.beq a y = true) : a = x ∨ a = y := h.imp Nat.eq_of_beq_eq_true Nat.eq_of_beq_eq_true
theorem stk_split {st : List Value} {b o : Nat} {r1 : List Value} (h : st.drop b = .ref o :: r1) : (st.take (b + 1)).reverse = .ref o :: (st.take b).reverse ∧ st.take b ++ .ref o :: st.drop (b + 1) = st := by
  have hb : b < st.length := by
    rcases Nat.lt_or_ge b st.length with q | q
    · exact q
    · rw [List.drop_eq_nil_of_le q] at h; cases h
  have h2 := List.drop_eq_getElem_cons hb
  rw [h] at h2
  have h3 : st[b] = .ref o := (List.cons.inj h2).1.symm
  refine ⟨?_, ?_⟩
  · rw [List.take_succ_eq_append_getElem hb, h3]; simp
  · rw [← h3, ← List.drop_eq_getElem_cons hb, List.take_append_drop]
/-- which return goes with which type -/
def ej_rk (t : Option FieldType) (a : Nat) : Bool := match t with
  | some .int => Nat.beq a 0
  | some .boolean => Nat.beq a 1
  | some .byte => Nat.beq a 2
  | some .char => Nat.beq a 3
  | _ => false
def ej_rr (t : Option FieldType) : Bool := match t with
  | some (.object _) => true
  | some (.array _) => true
  | _ => false
def ej_tsi (pc : Nat) : Int → List Int → List (Int32 × Nat) → Bool
  | _, [], [] => true
  | k, o :: os, (v, t) :: r => decide (v.toInt = k) && (decide ((pc : Int) + o = (t : Int)) && ej_tsi pc (k + 1) os r)
  | _, _, _ => false
def ej_tsw (pc : Nat) (df lo hi : Int) (offs : Array Int) (ts : List (Int32 × Nat)) (dt : Nat) : Bool := decide ((pc : Int) + df = (dt : Int)) && (decide (hi + 1 = lo + (offs.toList.length : Int)) && ej_tsi pc lo offs.toList ts)

/-- a decoded instruction is the one that my table says -/
def ej_mt (me pc len : Nat) (ins : Instr) (i : ej_I) : Bool := match ins with
  | .iconst n => (Nat.beq i.1 0 && (Nat.beq len 1 && (decide (Int32.ofInt n = i.2.2.2.2.1))))
  | .bipush n => (Nat.beq i.1 0 && (Nat.beq len 2 && (decide ((Int8.ofInt n).toInt32 = i.2.2.2.2.1))))
  | .sipush n => (Nat.beq i.1 0 && (Nat.beq len 3 && (decide ((Int16.ofInt n).toInt32 = i.2.2.2.2.1))))
  | .lconst n => (Nat.beq i.1 1 && (Nat.beq len 1 && (decide (Int64.ofNat (n : Nat) = i.2.2.2.2.2))))
  | .ldc2_w n => (Nat.beq i.1 1 && (Nat.beq len 3 && (hasL (ej_own me) n i.2.2.2.2.2)))
  | .aconst_null => (Nat.beq i.1 21 && (Nat.beq len 1))
  | .iload n => (Nat.beq i.1 2 && (Nat.beq len 2 && (Nat.beq n i.2.1)))
  | .iload_n n => (Nat.beq i.1 2 && (Nat.beq len 1 && (Nat.beq (n : Nat) i.2.1)))
  | .lload n => (Nat.beq i.1 69 && (Nat.beq len 2 && (Nat.beq n i.2.1)))
  | .lload_n n => (Nat.beq i.1 69 && (Nat.beq len 1 && (Nat.beq (n : Nat) i.2.1)))
  | .aload n => (Nat.beq i.1 70 && (Nat.beq len 2 && (Nat.beq n i.2.1)))
  | .aload_n n => (Nat.beq i.1 70 && (Nat.beq len 1 && (Nat.beq (n : Nat) i.2.1)))
  | .istore n => (Nat.beq i.1 3 && (Nat.beq len 2 && (Nat.beq n i.2.1)))
  | .istore_n n => (Nat.beq i.1 3 && (Nat.beq len 1 && (Nat.beq (n : Nat) i.2.1)))
  | .lstore n => (Nat.beq i.1 4 && (Nat.beq len 2 && (Nat.beq n i.2.1)))
  | .lstore_n n => (Nat.beq i.1 4 && (Nat.beq len 1 && (Nat.beq (n : Nat) i.2.1)))
  | .astore n => (Nat.beq i.1 71 && (Nat.beq len 2 && (Nat.beq n i.2.1)))
  | .astore_n n => (Nat.beq i.1 71 && (Nat.beq len 1 && (Nat.beq (n : Nat) i.2.1)))
  | .iinc n q => (Nat.beq i.1 5 && (Nat.beq len 3 && (Nat.beq n i.2.1 && (decide (Int32.ofInt q = i.2.2.2.2.1)))))
  | .iadd => (Nat.beq i.1 6 && (Nat.beq len 1 && (Nat.beq i.2.1 0)))
  | .isub => (Nat.beq i.1 6 && (Nat.beq len 1 && (Nat.beq i.2.1 1)))
  | .imul => (Nat.beq i.1 6 && (Nat.beq len 1 && (Nat.beq i.2.1 2)))
  | .iand => (Nat.beq i.1 6 && (Nat.beq len 1 && (Nat.beq i.2.1 3)))
  | .ior => (Nat.beq i.1 6 && (Nat.beq len 1 && (Nat.beq i.2.1 4)))
  | .ixor => (Nat.beq i.1 6 && (Nat.beq len 1 && (Nat.beq i.2.1 5)))
  | .ishl => (Nat.beq i.1 6 && (Nat.beq len 1 && (Nat.beq i.2.1 6)))
  | .ishr => (Nat.beq i.1 6 && (Nat.beq len 1 && (Nat.beq i.2.1 7)))
  | .iushr => (Nat.beq i.1 6 && (Nat.beq len 1 && (Nat.beq i.2.1 8)))
  | .idiv => (Nat.beq i.1 7 && (Nat.beq len 1 && (Nat.beq i.2.1 0)))
  | .irem => (Nat.beq i.1 7 && (Nat.beq len 1 && (Nat.beq i.2.1 1)))
  | .land => (Nat.beq i.1 8 && (Nat.beq len 1 && (Nat.beq i.2.1 0)))
  | .lor => (Nat.beq i.1 8 && (Nat.beq len 1 && (Nat.beq i.2.1 1)))
  | .lxor => (Nat.beq i.1 8 && (Nat.beq len 1 && (Nat.beq i.2.1 2)))
  | .lsub => (Nat.beq i.1 8 && (Nat.beq len 1 && (Nat.beq i.2.1 3)))
  | .lshl => (Nat.beq i.1 9 && (Nat.beq len 1 && (Nat.beq i.2.1 0)))
  | .lshr => (Nat.beq i.1 9 && (Nat.beq len 1 && (Nat.beq i.2.1 1)))
  | .i2l => (Nat.beq i.1 10 && (Nat.beq len 1 && (Nat.beq i.2.1 0)))
  | .i2b => (Nat.beq i.1 10 && (Nat.beq len 1 && (Nat.beq i.2.1 1)))
  | .i2c => (Nat.beq i.1 10 && (Nat.beq len 1 && (Nat.beq i.2.1 2)))
  | .lcmp => (Nat.beq i.1 11 && (Nat.beq len 1))
  | .dup => (Nat.beq i.1 12 && (Nat.beq len 1))
  | .dup2 => (Nat.beq i.1 13 && (Nat.beq len 1))
  | .pop => (Nat.beq i.1 14 && (Nat.beq len 1))
  | .goto off => (Nat.beq i.1 15 && (Nat.beq len 3 && (decide ((pc : Int) + off = (i.2.1 : Int)))))
  | .ifCond .eq off => (Nat.beq i.1 16 && (Nat.beq len 3 && (Nat.beq i.2.2.1 0 && (decide ((pc : Int) + off = (i.2.1 : Int))))))
  | .if_icmp .eq off => (Nat.beq i.1 17 && (Nat.beq len 3 && (Nat.beq i.2.2.1 0 && (decide ((pc : Int) + off = (i.2.1 : Int))))))
  | .ifCond .ne off => (Nat.beq i.1 16 && (Nat.beq len 3 && (Nat.beq i.2.2.1 1 && (decide ((pc : Int) + off = (i.2.1 : Int))))))
  | .if_icmp .ne off => (Nat.beq i.1 17 && (Nat.beq len 3 && (Nat.beq i.2.2.1 1 && (decide ((pc : Int) + off = (i.2.1 : Int))))))
  | .ifCond .lt off => (Nat.beq i.1 16 && (Nat.beq len 3 && (Nat.beq i.2.2.1 2 && (decide ((pc : Int) + off = (i.2.1 : Int))))))
  | .if_icmp .lt off => (Nat.beq i.1 17 && (Nat.beq len 3 && (Nat.beq i.2.2.1 2 && (decide ((pc : Int) + off = (i.2.1 : Int))))))
  | .ifCond .ge off => (Nat.beq i.1 16 && (Nat.beq len 3 && (Nat.beq i.2.2.1 3 && (decide ((pc : Int) + off = (i.2.1 : Int))))))
  | .if_icmp .ge off => (Nat.beq i.1 17 && (Nat.beq len 3 && (Nat.beq i.2.2.1 3 && (decide ((pc : Int) + off = (i.2.1 : Int))))))
  | .ifCond .gt off => (Nat.beq i.1 16 && (Nat.beq len 3 && (Nat.beq i.2.2.1 4 && (decide ((pc : Int) + off = (i.2.1 : Int))))))
  | .if_icmp .gt off => (Nat.beq i.1 17 && (Nat.beq len 3 && (Nat.beq i.2.2.1 4 && (decide ((pc : Int) + off = (i.2.1 : Int))))))
  | .ifCond .le off => (Nat.beq i.1 16 && (Nat.beq len 3 && (Nat.beq i.2.2.1 5 && (decide ((pc : Int) + off = (i.2.1 : Int))))))
  | .if_icmp .le off => (Nat.beq i.1 17 && (Nat.beq len 3 && (Nat.beq i.2.2.1 5 && (decide ((pc : Int) + off = (i.2.1 : Int))))))
  | .ifnull off => (Nat.beq i.1 18 && (Nat.beq len 3 && (decide ((pc : Int) + off = (i.2.1 : Int)))))
  | .ifnonnull off => (Nat.beq i.1 19 && (Nat.beq len 3 && (decide ((pc : Int) + off = (i.2.1 : Int)))))
  | .tableswitch df lo hi offs => (Nat.beq i.1 20 && (ej_tsw pc df lo hi offs (ej_sw i.2.2.1) i.2.1))
  | .getfield n => (Nat.beq i.1 22 && (Nat.beq len 3 && (hasF (ej_own me) n i.2.1 i.2.2.1 && ((Nat.beq (fcd i.2.1 i.2.2.1) 0 || Nat.beq (fcd i.2.1 i.2.2.1) 3))))) || (Nat.beq i.1 23 && (Nat.beq len 3 && (hasF (ej_own me) n i.2.1 i.2.2.1 && (Nat.beq (fcd i.2.1 i.2.2.1) 1)))) || (Nat.beq i.1 24 && (Nat.beq len 3 && (hasF (ej_own me) n i.2.1 i.2.2.1 && (Nat.beq (fcd i.2.1 i.2.2.1) 2)))) || (Nat.beq i.1 58 && (Nat.beq len 3 && (hasF (ej_own me) n i.2.1 i.2.2.1 && (Nat.beq (fcd i.2.1 i.2.2.1) 2)))) || (Nat.beq i.1 53 && (Nat.beq len 3 && (Nat.beq n 15 && (Nat.beq (ej_own me) 10 && (Nat.beq i.2.2.1 1))))) || (Nat.beq i.1 54 && (Nat.beq len 3 && (Nat.beq n 9 && (Nat.beq (ej_own me) 10 && (Nat.beq i.2.2.1 0)))))
  | .putfield n => (Nat.beq i.1 25 && (Nat.beq len 3 && (hasF (ej_own me) n i.2.1 i.2.2.1 && (Nat.beq (fcd i.2.1 i.2.2.1) 0 && ((!(TT i.2.1 i.2.2.1).2.2.2 || (decide ((ej_y me).name = "<init>") && (Nat.beq i.2.1 (ej_own me) && (TT i.2.1 i.2.2.1).2.2.2)))))))) || (Nat.beq i.1 26 && (Nat.beq len 3 && (hasF (ej_own me) n i.2.1 i.2.2.1 && (Nat.beq (fcd i.2.1 i.2.2.1) 3 && ((!(TT i.2.1 i.2.2.1).2.2.2 || (decide ((ej_y me).name = "<init>") && (Nat.beq i.2.1 (ej_own me) && (TT i.2.1 i.2.2.1).2.2.2)))))))) || (Nat.beq i.1 27 && (Nat.beq len 3 && (hasF (ej_own me) n i.2.1 i.2.2.1 && (Nat.beq (fcd i.2.1 i.2.2.1) 1 && ((!(TT i.2.1 i.2.2.1).2.2.2 || (decide ((ej_y me).name = "<init>") && (Nat.beq i.2.1 (ej_own me) && (TT i.2.1 i.2.2.1).2.2.2)))))))) || (Nat.beq i.1 28 && (Nat.beq len 3 && (hasF (ej_own me) n i.2.1 i.2.2.1 && (Nat.beq (fcd i.2.1 i.2.2.1) 2 && ((!(TT i.2.1 i.2.2.1).2.2.2 || (decide ((ej_y me).name = "<init>") && (Nat.beq i.2.1 (ej_own me) && (TT i.2.1 i.2.2.1).2.2.2))))))))
  | .iaload => (Nat.beq i.1 29 && (Nat.beq len 1)) || (Nat.beq i.1 50 && (Nat.beq len 1))
  | .baload => (Nat.beq i.1 30 && (Nat.beq len 1 && ((Nat.beq i.2.1 101 || Nat.beq i.2.1 102)))) || (Nat.beq i.1 51 && (Nat.beq len 1))
  | .aaload => (Nat.beq i.1 31 && (Nat.beq len 1 && ((Nat.beq i.2.1 103 || Nat.beq i.2.1 104))))
  | .iastore => (Nat.beq i.1 32 && (Nat.beq len 1))
  | .bastore => (Nat.beq i.1 33 && (Nat.beq len 1 && ((Nat.beq i.2.1 101 || Nat.beq i.2.1 102))))
  | .aastore => (Nat.beq i.1 34 && (Nat.beq len 1 && ((Nat.beq i.2.1 103 || Nat.beq i.2.1 104))))
  | .arraylength => (Nat.beq i.1 35 && (Nat.beq len 1)) || (Nat.beq i.1 52 && (Nat.beq len 1))
  | .newarray .int => (Nat.beq i.1 36 && (Nat.beq len 2 && (Nat.beq i.2.1 100)))
  | .newarray .byte => (Nat.beq i.1 36 && (Nat.beq len 2 && (Nat.beq i.2.1 101)))
  | .newarray .boolean => (Nat.beq i.1 36 && (Nat.beq len 2 && (Nat.beq i.2.1 102)))
  | .anewarray n => (Nat.beq i.1 37 && (Nat.beq len 3 && ((Nat.beq i.2.1 103 || Nat.beq i.2.1 104) && (hasC (ej_own me) n (ej_el i.2.1)))))
  | .new n => (Nat.beq i.1 38 && (Nat.beq len 3 && (hasC (ej_own me) n i.2.1 && (Nat.beq i.2.2.1 (NN i.2.1)))))
  | .ireturn => (Nat.beq i.1 39 && (Nat.beq len 1 && (ej_rk (ej_rt me) i.2.1)))
  | .lreturn => (Nat.beq i.1 40 && (Nat.beq len 1 && (decide (ej_rt me = some .long))))
  | .areturn => (Nat.beq i.1 41 && (Nat.beq len 1 && (ej_rr (ej_rt me))))
  | .return_ => (Nat.beq i.1 42 && (Nat.beq len 1 && (decide (ej_rt me = none))))
  | .invokestatic n => (Nat.beq i.1 60 && (Nat.beq len 3 && (hasM (ej_own me) n i.2.1 && (isS i.2.1 && (decide (i.2.1 < 221) && (Nat.beq i.2.2.1 (ej_na i.2.1))))))) || (Nat.beq i.1 61 && (Nat.beq len 3 && (hasM (ej_own me) n i.2.1 && (isS i.2.1 && (decide (i.2.1 < 221) && (Nat.beq i.2.2.1 (ej_na i.2.1))))))) || (Nat.beq i.1 62 && (Nat.beq len 3 && (hasM (ej_own me) n i.2.1 && (isS i.2.1 && (decide (i.2.1 < 221) && (Nat.beq i.2.2.1 (ej_na i.2.1))))))) || (Nat.beq i.1 63 && (Nat.beq len 3 && (hasM (ej_own me) n i.2.1 && (isS i.2.1 && (decide (i.2.1 < 221) && (Nat.beq i.2.2.1 (ej_na i.2.1))))))) || (Nat.beq i.1 47 && (Nat.beq len 3 && (hasA (ej_own me) n))) || (Nat.beq i.1 72 && (Nat.beq len 3 && (hasX (ej_own me) n)))
  | .invokevirtual n => (Nat.beq i.1 64 && (Nat.beq len 3 && (hasM (ej_own me) n i.2.1 && (isV i.2.1 && (decide (i.2.1 < 221) && (Nat.beq i.2.2.1 (ej_na i.2.1) && (decide (i.2.2.2.1 ≤ 10) && (Nat.beq (ej_own i.2.1) i.2.2.2.1)))))))) || (Nat.beq i.1 65 && (Nat.beq len 3 && (hasM (ej_own me) n i.2.1 && (isV i.2.1 && (decide (i.2.1 < 221) && (Nat.beq i.2.2.1 (ej_na i.2.1) && (decide (i.2.2.2.1 ≤ 10) && (Nat.beq (ej_own i.2.1) i.2.2.2.1)))))))) || (Nat.beq i.1 66 && (Nat.beq len 3 && (hasM (ej_own me) n i.2.1 && (isV i.2.1 && (decide (i.2.1 < 221) && (Nat.beq i.2.2.1 (ej_na i.2.1) && (decide (i.2.2.2.1 ≤ 10) && (Nat.beq (ej_own i.2.1) i.2.2.2.1)))))))) || (Nat.beq i.1 67 && (Nat.beq len 3 && (hasM (ej_own me) n i.2.1 && (isV i.2.1 && (decide (i.2.1 < 221) && (Nat.beq i.2.2.1 (ej_na i.2.1) && (decide (i.2.2.2.1 ≤ 10) && (Nat.beq (ej_own i.2.1) i.2.2.2.1)))))))) || (Nat.beq i.1 55 && (Nat.beq len 3 && (Nat.beq n 316 && (Nat.beq (ej_own me) 16))))
  | .invokespecial n => (Nat.beq i.1 68 && (Nat.beq len 3 && ((hasM (ej_own me) n i.2.1 || hasN (ej_own me) n i.2.1) && (isI i.2.1 && (decide (i.2.1 < 221) && (Nat.beq i.2.2.1 (ej_na i.2.1))))))) || (Nat.beq i.1 46 && (Nat.beq len 3 && (hasO (ej_own me) n)))
  | .ldc n => (Nat.beq i.1 0 && (Nat.beq len 2 && (hasI (ej_own me) n i.2.2.2.2.1))) || (Nat.beq i.1 48 && (Nat.beq len 2 && (hasT (ej_own me) n i.2.1 && (decide (i.2.1 < 59)))))
  | .ldc_w n => (Nat.beq i.1 0 && (Nat.beq len 3 && (hasI (ej_own me) n i.2.2.2.2.1))) || (Nat.beq i.1 48 && (Nat.beq len 3 && (hasT (ej_own me) n i.2.1 && (decide (i.2.1 < 59)))))
  | .getstatic n => (Nat.beq i.1 48 && (Nat.beq len 3 && (Nat.beq (ej_own me) 3 && (((Nat.beq n 21 && Nat.beq i.2.1 1) || (Nat.beq n 63 && Nat.beq i.2.1 2)))))) || (Nat.beq i.1 49 && (Nat.beq len 3 && (Nat.beq n 38 && (Nat.beq (ej_own me) 10 && (decide (i.2.2.2.2.1 = 1)))))) || (Nat.beq i.1 57 && (Nat.beq len 3 && (Nat.beq n 1053 && (Nat.beq (ej_own me) 10))))
  | .checkcast n => (Nat.beq i.1 56 && (Nat.beq len 3 && (Nat.beq n 317 && (Nat.beq (ej_own me) 16))))
  | _ => false
section SND
variable {p : Program} {l : Launch} {e : Env} {R : Room} {s : State} {m : MethodId} {args : Array Value} {below : List Frame} {meth : Method} {c : Code} {Q : State → Prop} {D : va_G} {cA : Nat → ClassId} {a0 : Nat → Nat} {bs : Nat} {vZ : Value} {L : Nat} {xs : Nat → Int32} {me z0 s0 pc len d0 : Nat} {ls : ej_L} {st : List Value} {M : ej_Mem} {i : ej_I} {K : ej_K} {r : ej_R} {cl : Nat → List Value → ej_Mem → Option ej_R}
theorem fv_int {o a b : Nat} (h : Nat.beq (fcd a b) 0 = true ∨ Nat.beq (fcd a b) 3 = true) : ej_fv a0 bs M o a b = ej_tr a0 bs vZ (.int (mI M o b)) := by
  unfold ej_fv
  rcases or_nat h with h | h <;> rw [h] <;> rfl
theorem fv_long {o a b : Nat} (h : Nat.beq (fcd a b) 1 = true) : ej_fv a0 bs M o a b = ej_tr a0 bs vZ (.long (mL M o b)) := by
  unfold ej_fv
  rw [Nat.eq_of_beq_eq_true h]; rfl
theorem fv_ref {o a b : Nat} (h : Nat.beq (fcd a b) 2 = true) : ej_fv a0 bs M o a b = ej_tr a0 bs vZ (va_rf (mR M o b)) := by
  unfold ej_fv
  rw [Nat.eq_of_beq_eq_true h, tr_rf]; rfl
theorem fin_ok {a b : Nat} (h : (!(TT a b).2.2.2) = true ∨ ((ej_y me).name = "<init>" ∧ (Nat.beq a (ej_own me) = true ∧ (TT a b).2.2.2 = true))) : (TT a b).2.2.2 = false ∨ ((ej_y me).name = "<init>" ∧ a = ej_own me ∧ (TT a b).2.2.2 = true) := by
  rcases h with h | ⟨h1, h2, h3⟩
  · exact Or.inl (by simpa using h)
  · exact Or.inr ⟨h1, Nat.eq_of_beq_eq_true h2, h3⟩
theorem sd_ldcw (C : ej_Cx p s m args meth c D cA a0 bs vZ L xs me) {n : Nat} {v : Int32} (hd : decode (ej_b me) pc = .ok (.ldc_w n, 3)) (hw : Cond.constant (ej_cn (ej_own me)) n v ∈ gtbl) (k : ej_G p l e R s m args below meth c Q D cA a0 bs vZ L xs me z0 s0 (pc + 3) ls (.int v :: st) M) : ej_G p l e R s m args below meth c Q D cA a0 bs vZ L xs me z0 s0 pc ls st M :=
  fun H locs la hW hS hL hz hs => lv_ldcw C.1 C.2.1 C.2.2.2.1 (C.2.2.2.2.1 _ hw) hd (k H locs la hW hS hL hz hs)
theorem ldcw_str {T : State} {locs : List Loc} {cells slots : Nat} (X : Stand p l e R s m args below meth c T locs cells slots) (hexec : p.tables.exec = Jvm.exec) {own text : String} {index : Nat} {a : Addr} (hown : s.vm.findClass own = some m.cls)
    (hconst : (Cond.stringRef own index text).before args s = true) (hev : (Term.string own index).eval args s none [] s = some (.ref a)) {g : JFrame} (hg : g.method = m) (hdg : decode c.code g.pc = .ok (.ldc_w index, 3)) :
    ∀ target, Steps p.tables e below (T.setTop { g with pc := g.pc + 3, stack := .ref a :: g.stack }) target → Steps p.tables e below (T.setTop g) target := by
  obtain ⟨k, cf, i, a', hk, hcf, hcp, -, hr, hev'⟩ := Cond.stringRef_spec hown hconst
  cases hev.symm.trans hev'
  obtain ⟨k', hk', he⟩ := X.warmed.alike.2.2 _ _ hk
  have hr' : k'.resolved[index]? = some (some (.string a)) := by
    rcases X.warmed.entry hk hk' index with h | ⟨h, -⟩
    · rw [h]; exact hr
    · rw [hr] at h; cases h
  intro target hrest
  subst hg
  jvm_step X.here [hexec, hdg, ldc_w.wp_string (s := T) (f := g) X.here.top hk' (by rw [he]; exact hcf) hcp hr']
  exact hrest
theorem sd_ldcwS (C : ej_Cx p s m args meth c D cA a0 bs vZ L xs me) {n i : Nat} (hd : decode (ej_b me) pc = .ok (.ldc_w n, 3)) (hw : hasT (ej_own me) n i = true) (hi : i < 59) (k : ej_G p l e R s m args below meth c Q D cA a0 bs vZ L xs me z0 s0 (pc + 3) ls (.ref i :: st) M) : ej_G p l e R s m args below meth c Q D cA a0 bs vZ L xs me z0 s0 pc ls st M := by
  intro H locs la hW hS hL hz hs
  obtain ⟨e, he, h1, h2, h3⟩ := hasT_ok hw
  have hR := C.2.2.2.2.2.1.2.2.1 e he
  rw [← h1, ← h2, ← h3] at hR
  have hk := k H locs la hW hS hL hz hs
  have e1 : (Value.ref i :: st).map (ej_tr a0 bs vZ) = .ref (a0 i) :: st.map (ej_tr a0 bs vZ) := by simp [ej_tr, ej_ad, hi]
  rw [e1] at hk
  intro T hT X
  obtain ⟨t, b1, b2⟩ := hk T hT X
  exact ⟨t, ldcw_str X C.1 C.2.2.2.1 (text := e.2.2.2.2) (a := a0 i) hR.1 hR.2 (g := F0 m pc la (st.map (ej_tr a0 bs vZ))) rfl (by rw [C.2.1]; exact hd) t b1, b2⟩
theorem tsi_spec {x : Int32} {k : Nat → Option ej_R} {df : Option ej_R} : ∀ (os : List Int) (ts : List (Int32 × Nat)) (lo : Int), ej_tsi pc lo os ts = true → ej_swi x ts k df = some r →
    (∃ (j : Nat) (o : Int) (t : Nat), os[j]? = some o ∧ x.toInt = lo + (j : Int) ∧ (pc : Int) + o = (t : Int) ∧ k t = some r) ∨ ((x.toInt < lo ∨ lo + (os.length : Int) ≤ x.toInt) ∧ df = some r)
  | [], [], lo, _, h => Or.inr ⟨by simp; omega, h⟩
  | o :: os, (v, t) :: r1, lo, hc, h => by
    simp only [ej_tsi, Bool.and_eq_true, decide_eq_true_eq] at hc
    obtain ⟨h1, h2, h3⟩ := hc
    have h : (if x = v then k t else ej_swi x r1 k df) = some r := h
    by_cases hx : x = v
    · rw [if_pos hx] at h
      exact Or.inl ⟨0, o, t, rfl, by rw [hx, h1]; simp, h2, h⟩
    · rw [if_neg hx] at h
      rcases tsi_spec os r1 (lo + 1) h3 h with ⟨j, o', t', g1, g2, g3, g4⟩ | ⟨g1, g2⟩
      · exact Or.inl ⟨j + 1, o', t', by simpa using g1, by rw [g2]; push_cast; omega, g3, g4⟩
      · refine Or.inr ⟨?_, g2⟩
        have hne : x.toInt ≠ lo := fun q => hx (Int32.toInt_inj.mp (by rw [q, h1]))
        simp only [List.length_cons]
        push_cast
        omega
  | [], _ :: _, _, hc, _ => by simp [ej_tsi] at hc
  | _ :: _, [], _, hc, _ => by simp [ej_tsi] at hc
theorem sd_table (C : ej_Cx p s m args meth c D cA a0 bs vZ L xs me) {df lo hi : Int} {offs : Array Int} {x : Int32} {a b : Nat} (hd : decode (ej_b me) pc = .ok (.tableswitch df lo hi offs, len)) (hc : ej_tsw pc df lo hi offs (ej_sw b) a = true) (hK : ∀ pc ls st M, K pc ls st M = some r → ej_G p l e R s m args below meth c Q D cA a0 bs vZ L xs me z0 s0 pc ls st M) (h : ej_swi x (ej_sw b) (fun t => K t ls st M) (K a ls st M) = some r) : ej_G p l e R s m args below meth c Q D cA a0 bs vZ L xs me z0 s0 pc ls (.int x :: st) M := by
  simp only [ej_tsw, Bool.and_eq_true, decide_eq_true_eq] at hc
  obtain ⟨h1, h2, h3⟩ := hc
  rcases tsi_spec _ _ _ h3 h with ⟨j, o, t, g1, g2, g3, g4⟩ | ⟨g1, g2⟩
  · have hj : j < offs.toList.length := (List.getElem?_eq_some_iff.mp g1).1
    refine sd_tableIn (off := o) C hd (by omega) (by omega) ?_ g3 (hK _ _ _ _ g4)
    rw [show (x.toInt - lo).toNat = j by omega, ← Array.getElem?_toList]
    exact g1
  · exact sd_tableOut C hd (by omega) h1 (hK _ _ _ _ g2)

set_option maxHeartbeats 1000000 in
theorem so_0 (C : ej_Cx p s m args meth c D cA a0 bs vZ L xs me) {n : Int} (hd : decode (ej_b me) pc = .ok (.iconst n, len)) (hm : ej_mt me pc len (.iconst n) i = true) (h : ej_stp ej_sw cl i pc len ls st M K = some r) (hK : ∀ pc ls st M, K pc ls st M = some r → ej_G p l e R s m args below meth c Q D cA a0 bs vZ L xs me z0 s0 pc ls st M) (hmo : ∀ pc ls st M, K pc ls st M = some r → mZ M ≤ mZ r.2 ∧ mS M ≤ mS r.2) (hRc : mZ r.2 - z0 ≤ R.cells ∧ mS r.2 - s0 ≤ R.slots) (hR : d0 + 1 ≤ R.frames ∧ 38 * (d0 + 1) ≤ R.locals) (hcl : ∀ m av M1 v M2, m < 221 → cl m av M1 = some (v, M2) → ej_Met l D cA a0 bs vZ L xs d0 m av M1 v M2 ∧ mZ M1 ≤ mZ M2 ∧ mS M1 ≤ mS M2) (hI : ∀ {pc a : Nat} {ls : ej_L} {v : Int32} {M : ej_Mem}, decode (ej_b me) pc = .ok (.ireturn, 1) → ej_rk (ej_rt me) a = true → ej_nar a v → some (some (.int v), M) = some r → ej_G p l e R s m args below meth c Q D cA a0 bs vZ L xs me z0 s0 pc ls [.int v] M) (hJ : ∀ {pc : Nat} {ls : ej_L} {v : Int64} {M : ej_Mem}, decode (ej_b me) pc = .ok (.lreturn, 1) → ej_rt me = some .long → some (some (.long v), M) = some r → ej_G p l e R s m args below meth c Q D cA a0 bs vZ L xs me z0 s0 pc ls [.long v] M) (hA : ∀ {pc : Nat} {ls : ej_L} {q : Option Nat} {M : ej_Mem}, decode (ej_b me) pc = .ok (.areturn, 1) → ej_rr (ej_rt me) = true → some (some (va_rf q), M) = some r → ej_G p l e R s m args below meth c Q D cA a0 bs vZ L xs me z0 s0 pc ls [va_rf q] M) (hV : ∀ {pc : Nat} {ls : ej_L} {M : ej_Mem}, decode (ej_b me) pc = .ok (.return_, 1) → ej_rt me = none → some (none, M) = some r → ej_G p l e R s m args below meth c Q D cA a0 bs vZ L xs me z0 s0 pc ls [] M) : ej_G p l e R s m args below meth c Q D cA a0 bs vZ L xs me z0 s0 pc ls st M := by
  obtain ⟨op, a, b, d, cc, ee⟩ := i
  simp only [ej_mt, Bool.and_eq_true, Bool.or_eq_true, decide_eq_true_eq] at hm
  obtain ⟨eop, eln, c1⟩ := hm
  have eop := Nat.eq_of_beq_eq_true eop
  subst eop
  have eln := Nat.eq_of_beq_eq_true eln
  subst eln
  replace h : (K (pc + 1) ls (.int cc :: st) M) = some r := h
  exact sd_iconst C hd c1 (hK _ _ _ _ h)
set_option maxHeartbeats 1000000 in
theorem so_1 (C : ej_Cx p s m args meth c D cA a0 bs vZ L xs me) {n : Int} (hd : decode (ej_b me) pc = .ok (.bipush n, len)) (hm : ej_mt me pc len (.bipush n) i = true) (h : ej_stp ej_sw cl i pc len ls st M K = some r) (hK : ∀ pc ls st M, K pc ls st M = some r → ej_G p l e R s m args below meth c Q D cA a0 bs vZ L xs me z0 s0 pc ls st M) (hmo : ∀ pc ls st M, K pc ls st M = some r → mZ M ≤ mZ r.2 ∧ mS M ≤ mS r.2) (hRc : mZ r.2 - z0 ≤ R.cells ∧ mS r.2 - s0 ≤ R.slots) (hR : d0 + 1 ≤ R.frames ∧ 38 * (d0 + 1) ≤ R.locals) (hcl : ∀ m av M1 v M2, m < 221 → cl m av M1 = some (v, M2) → ej_Met l D cA a0 bs vZ L xs d0 m av M1 v M2 ∧ mZ M1 ≤ mZ M2 ∧ mS M1 ≤ mS M2) (hI : ∀ {pc a : Nat} {ls : ej_L} {v : Int32} {M : ej_Mem}, decode (ej_b me) pc = .ok (.ireturn, 1) → ej_rk (ej_rt me) a = true → ej_nar a v → some (some (.int v), M) = some r → ej_G p l e R s m args below meth c Q D cA a0 bs vZ L xs me z0 s0 pc ls [.int v] M) (hJ : ∀ {pc : Nat} {ls : ej_L} {v : Int64} {M : ej_Mem}, decode (ej_b me) pc = .ok (.lreturn, 1) → ej_rt me = some .long → some (some (.long v), M) = some r → ej_G p l e R s m args below meth c Q D cA a0 bs vZ L xs me z0 s0 pc ls [.long v] M) (hA : ∀ {pc : Nat} {ls : ej_L} {q : Option Nat} {M : ej_Mem}, decode (ej_b me) pc = .ok (.areturn, 1) → ej_rr (ej_rt me) = true → some (some (va_rf q), M) = some r → ej_G p l e R s m args below meth c Q D cA a0 bs vZ L xs me z0 s0 pc ls [va_rf q] M) (hV : ∀ {pc : Nat} {ls : ej_L} {M : ej_Mem}, decode (ej_b me) pc = .ok (.return_, 1) → ej_rt me = none → some (none, M) = some r → ej_G p l e R s m args below meth c Q D cA a0 bs vZ L xs me z0 s0 pc ls [] M) : ej_G p l e R s m args below meth c Q D cA a0 bs vZ L xs me z0 s0 pc ls st M := by
  obtain ⟨op, a, b, d, cc, ee⟩ := i
  simp only [ej_mt, Bool.and_eq_true, Bool.or_eq_true, decide_eq_true_eq] at hm
  obtain ⟨eop, eln, c1⟩ := hm
  have eop := Nat.eq_of_beq_eq_true eop
  subst eop
  have eln := Nat.eq_of_beq_eq_true eln
  subst eln
  replace h : (K (pc + 2) ls (.int cc :: st) M) = some r := h
  exact sd_bipush C hd c1 (hK _ _ _ _ h)
set_option maxHeartbeats 1000000 in
theorem so_2 (C : ej_Cx p s m args meth c D cA a0 bs vZ L xs me) {n : Int} (hd : decode (ej_b me) pc = .ok (.sipush n, len)) (hm : ej_mt me pc len (.sipush n) i = true) (h : ej_stp ej_sw cl i pc len ls st M K = some r) (hK : ∀ pc ls st M, K pc ls st M = some r → ej_G p l e R s m args below meth c Q D cA a0 bs vZ L xs me z0 s0 pc ls st M) (hmo : ∀ pc ls st M, K pc ls st M = some r → mZ M ≤ mZ r.2 ∧ mS M ≤ mS r.2) (hRc : mZ r.2 - z0 ≤ R.cells ∧ mS r.2 - s0 ≤ R.slots) (hR : d0 + 1 ≤ R.frames ∧ 38 * (d0 + 1) ≤ R.locals) (hcl : ∀ m av M1 v M2, m < 221 → cl m av M1 = some (v, M2) → ej_Met l D cA a0 bs vZ L xs d0 m av M1 v M2 ∧ mZ M1 ≤ mZ M2 ∧ mS M1 ≤ mS M2) (hI : ∀ {pc a : Nat} {ls : ej_L} {v : Int32} {M : ej_Mem}, decode (ej_b me) pc = .ok (.ireturn, 1) → ej_rk (ej_rt me) a = true → ej_nar a v → some (some (.int v), M) = some r → ej_G p l e R s m args below meth c Q D cA a0 bs vZ L xs me z0 s0 pc ls [.int v] M) (hJ : ∀ {pc : Nat} {ls : ej_L} {v : Int64} {M : ej_Mem}, decode (ej_b me) pc = .ok (.lreturn, 1) → ej_rt me = some .long → some (some (.long v), M) = some r → ej_G p l e R s m args below meth c Q D cA a0 bs vZ L xs me z0 s0 pc ls [.long v] M) (hA : ∀ {pc : Nat} {ls : ej_L} {q : Option Nat} {M : ej_Mem}, decode (ej_b me) pc = .ok (.areturn, 1) → ej_rr (ej_rt me) = true → some (some (va_rf q), M) = some r → ej_G p l e R s m args below meth c Q D cA a0 bs vZ L xs me z0 s0 pc ls [va_rf q] M) (hV : ∀ {pc : Nat} {ls : ej_L} {M : ej_Mem}, decode (ej_b me) pc = .ok (.return_, 1) → ej_rt me = none → some (none, M) = some r → ej_G p l e R s m args below meth c Q D cA a0 bs vZ L xs me z0 s0 pc ls [] M) : ej_G p l e R s m args below meth c Q D cA a0 bs vZ L xs me z0 s0 pc ls st M := by
  obtain ⟨op, a, b, d, cc, ee⟩ := i
  simp only [ej_mt, Bool.and_eq_true, Bool.or_eq_true, decide_eq_true_eq] at hm
  obtain ⟨eop, eln, c1⟩ := hm
  have eop := Nat.eq_of_beq_eq_true eop
  subst eop
  have eln := Nat.eq_of_beq_eq_true eln
  subst eln
  replace h : (K (pc + 3) ls (.int cc :: st) M) = some r := h
  exact sd_sipush C hd c1 (hK _ _ _ _ h)
set_option maxHeartbeats 1000000 in
theorem so_3 (C : ej_Cx p s m args meth c D cA a0 bs vZ L xs me) {n : Fin 2} (hd : decode (ej_b me) pc = .ok (.lconst n, len)) (hm : ej_mt me pc len (.lconst n) i = true) (h : ej_stp ej_sw cl i pc len ls st M K = some r) (hK : ∀ pc ls st M, K pc ls st M = some r → ej_G p l e R s m args below meth c Q D cA a0 bs vZ L xs me z0 s0 pc ls st M) (hmo : ∀ pc ls st M, K pc ls st M = some r → mZ M ≤ mZ r.2 ∧ mS M ≤ mS r.2) (hRc : mZ r.2 - z0 ≤ R.cells ∧ mS r.2 - s0 ≤ R.slots) (hR : d0 + 1 ≤ R.frames ∧ 38 * (d0 + 1) ≤ R.locals) (hcl : ∀ m av M1 v M2, m < 221 → cl m av M1 = some (v, M2) → ej_Met l D cA a0 bs vZ L xs d0 m av M1 v M2 ∧ mZ M1 ≤ mZ M2 ∧ mS M1 ≤ mS M2) (hI : ∀ {pc a : Nat} {ls : ej_L} {v : Int32} {M : ej_Mem}, decode (ej_b me) pc = .ok (.ireturn, 1) → ej_rk (ej_rt me) a = true → ej_nar a v → some (some (.int v), M) = some r → ej_G p l e R s m args below meth c Q D cA a0 bs vZ L xs me z0 s0 pc ls [.int v] M) (hJ : ∀ {pc : Nat} {ls : ej_L} {v : Int64} {M : ej_Mem}, decode (ej_b me) pc = .ok (.lreturn, 1) → ej_rt me = some .long → some (some (.long v), M) = some r → ej_G p l e R s m args below meth c Q D cA a0 bs vZ L xs me z0 s0 pc ls [.long v] M) (hA : ∀ {pc : Nat} {ls : ej_L} {q : Option Nat} {M : ej_Mem}, decode (ej_b me) pc = .ok (.areturn, 1) → ej_rr (ej_rt me) = true → some (some (va_rf q), M) = some r → ej_G p l e R s m args below meth c Q D cA a0 bs vZ L xs me z0 s0 pc ls [va_rf q] M) (hV : ∀ {pc : Nat} {ls : ej_L} {M : ej_Mem}, decode (ej_b me) pc = .ok (.return_, 1) → ej_rt me = none → some (none, M) = some r → ej_G p l e R s m args below meth c Q D cA a0 bs vZ L xs me z0 s0 pc ls [] M) : ej_G p l e R s m args below meth c Q D cA a0 bs vZ L xs me z0 s0 pc ls st M := by
  obtain ⟨op, a, b, d, cc, ee⟩ := i
  simp only [ej_mt, Bool.and_eq_true, Bool.or_eq_true, decide_eq_true_eq] at hm
  obtain ⟨eop, eln, c1⟩ := hm
  have eop := Nat.eq_of_beq_eq_true eop
  subst eop
  have eln := Nat.eq_of_beq_eq_true eln
  subst eln
  replace h : (K (pc + 1) ls (.long ee :: st) M) = some r := h
  exact sd_lconst C hd c1 (hK _ _ _ _ h)
set_option maxHeartbeats 1000000 in
theorem so_4 (C : ej_Cx p s m args meth c D cA a0 bs vZ L xs me) {n : Nat} (hd : decode (ej_b me) pc = .ok (.ldc2_w n, len)) (hm : ej_mt me pc len (.ldc2_w n) i = true) (h : ej_stp ej_sw cl i pc len ls st M K = some r) (hK : ∀ pc ls st M, K pc ls st M = some r → ej_G p l e R s m args below meth c Q D cA a0 bs vZ L xs me z0 s0 pc ls st M) (hmo : ∀ pc ls st M, K pc ls st M = some r → mZ M ≤ mZ r.2 ∧ mS M ≤ mS r.2) (hRc : mZ r.2 - z0 ≤ R.cells ∧ mS r.2 - s0 ≤ R.slots) (hR : d0 + 1 ≤ R.frames ∧ 38 * (d0 + 1) ≤ R.locals) (hcl : ∀ m av M1 v M2, m < 221 → cl m av M1 = some (v, M2) → ej_Met l D cA a0 bs vZ L xs d0 m av M1 v M2 ∧ mZ M1 ≤ mZ M2 ∧ mS M1 ≤ mS M2) (hI : ∀ {pc a : Nat} {ls : ej_L} {v : Int32} {M : ej_Mem}, decode (ej_b me) pc = .ok (.ireturn, 1) → ej_rk (ej_rt me) a = true → ej_nar a v → some (some (.int v), M) = some r → ej_G p l e R s m args below meth c Q D cA a0 bs vZ L xs me z0 s0 pc ls [.int v] M) (hJ : ∀ {pc : Nat} {ls : ej_L} {v : Int64} {M : ej_Mem}, decode (ej_b me) pc = .ok (.lreturn, 1) → ej_rt me = some .long → some (some (.long v), M) = some r → ej_G p l e R s m args below meth c Q D cA a0 bs vZ L xs me z0 s0 pc ls [.long v] M) (hA : ∀ {pc : Nat} {ls : ej_L} {q : Option Nat} {M : ej_Mem}, decode (ej_b me) pc = .ok (.areturn, 1) → ej_rr (ej_rt me) = true → some (some (va_rf q), M) = some r → ej_G p l e R s m args below meth c Q D cA a0 bs vZ L xs me z0 s0 pc ls [va_rf q] M) (hV : ∀ {pc : Nat} {ls : ej_L} {M : ej_Mem}, decode (ej_b me) pc = .ok (.return_, 1) → ej_rt me = none → some (none, M) = some r → ej_G p l e R s m args below meth c Q D cA a0 bs vZ L xs me z0 s0 pc ls [] M) : ej_G p l e R s m args below meth c Q D cA a0 bs vZ L xs me z0 s0 pc ls st M := by
  obtain ⟨op, a, b, d, cc, ee⟩ := i
  simp only [ej_mt, Bool.and_eq_true, Bool.or_eq_true, decide_eq_true_eq] at hm
  obtain ⟨eop, eln, c1⟩ := hm
  have eop := Nat.eq_of_beq_eq_true eop
  subst eop
  have eln := Nat.eq_of_beq_eq_true eln
  subst eln
  replace h : (K (pc + 3) ls (.long ee :: st) M) = some r := h
  exact sd_ldc2 C hd (hasL_ok c1) (hK _ _ _ _ h)
set_option maxHeartbeats 1000000 in
theorem so_5 (C : ej_Cx p s m args meth c D cA a0 bs vZ L xs me)  (hd : decode (ej_b me) pc = .ok (.aconst_null, len)) (hm : ej_mt me pc len (.aconst_null) i = true) (h : ej_stp ej_sw cl i pc len ls st M K = some r) (hK : ∀ pc ls st M, K pc ls st M = some r → ej_G p l e R s m args below meth c Q D cA a0 bs vZ L xs me z0 s0 pc ls st M) (hmo : ∀ pc ls st M, K pc ls st M = some r → mZ M ≤ mZ r.2 ∧ mS M ≤ mS r.2) (hRc : mZ r.2 - z0 ≤ R.cells ∧ mS r.2 - s0 ≤ R.slots) (hR : d0 + 1 ≤ R.frames ∧ 38 * (d0 + 1) ≤ R.locals) (hcl : ∀ m av M1 v M2, m < 221 → cl m av M1 = some (v, M2) → ej_Met l D cA a0 bs vZ L xs d0 m av M1 v M2 ∧ mZ M1 ≤ mZ M2 ∧ mS M1 ≤ mS M2) (hI : ∀ {pc a : Nat} {ls : ej_L} {v : Int32} {M : ej_Mem}, decode (ej_b me) pc = .ok (.ireturn, 1) → ej_rk (ej_rt me) a = true → ej_nar a v → some (some (.int v), M) = some r → ej_G p l e R s m args below meth c Q D cA a0 bs vZ L xs me z0 s0 pc ls [.int v] M) (hJ : ∀ {pc : Nat} {ls : ej_L} {v : Int64} {M : ej_Mem}, decode (ej_b me) pc = .ok (.lreturn, 1) → ej_rt me = some .long → some (some (.long v), M) = some r → ej_G p l e R s m args below meth c Q D cA a0 bs vZ L xs me z0 s0 pc ls [.long v] M) (hA : ∀ {pc : Nat} {ls : ej_L} {q : Option Nat} {M : ej_Mem}, decode (ej_b me) pc = .ok (.areturn, 1) → ej_rr (ej_rt me) = true → some (some (va_rf q), M) = some r → ej_G p l e R s m args below meth c Q D cA a0 bs vZ L xs me z0 s0 pc ls [va_rf q] M) (hV : ∀ {pc : Nat} {ls : ej_L} {M : ej_Mem}, decode (ej_b me) pc = .ok (.return_, 1) → ej_rt me = none → some (none, M) = some r → ej_G p l e R s m args below meth c Q D cA a0 bs vZ L xs me z0 s0 pc ls [] M) : ej_G p l e R s m args below meth c Q D cA a0 bs vZ L xs me z0 s0 pc ls st M := by
  obtain ⟨op, a, b, d, cc, ee⟩ := i
  simp only [ej_mt, Bool.and_eq_true, Bool.or_eq_true, decide_eq_true_eq] at hm
  obtain ⟨eop, eln⟩ := hm
  have eop := Nat.eq_of_beq_eq_true eop
  subst eop
  have eln := Nat.eq_of_beq_eq_true eln
  subst eln
  replace h : (K (pc + 1) ls (.null :: st) M) = some r := h
  exact sd_null C hd (hK _ _ _ _ h)
set_option maxHeartbeats 1000000 in
theorem so_6 (C : ej_Cx p s m args meth c D cA a0 bs vZ L xs me) {n : Nat} (hd : decode (ej_b me) pc = .ok (.iload n, len)) (hm : ej_mt me pc len (.iload n) i = true) (h : ej_stp ej_sw cl i pc len ls st M K = some r) (hK : ∀ pc ls st M, K pc ls st M = some r → ej_G p l e R s m args below meth c Q D cA a0 bs vZ L xs me z0 s0 pc ls st M) (hmo : ∀ pc ls st M, K pc ls st M = some r → mZ M ≤ mZ r.2 ∧ mS M ≤ mS r.2) (hRc : mZ r.2 - z0 ≤ R.cells ∧ mS r.2 - s0 ≤ R.slots) (hR : d0 + 1 ≤ R.frames ∧ 38 * (d0 + 1) ≤ R.locals) (hcl : ∀ m av M1 v M2, m < 221 → cl m av M1 = some (v, M2) → ej_Met l D cA a0 bs vZ L xs d0 m av M1 v M2 ∧ mZ M1 ≤ mZ M2 ∧ mS M1 ≤ mS M2) (hI : ∀ {pc a : Nat} {ls : ej_L} {v : Int32} {M : ej_Mem}, decode (ej_b me) pc = .ok (.ireturn, 1) → ej_rk (ej_rt me) a = true → ej_nar a v → some (some (.int v), M) = some r → ej_G p l e R s m args below meth c Q D cA a0 bs vZ L xs me z0 s0 pc ls [.int v] M) (hJ : ∀ {pc : Nat} {ls : ej_L} {v : Int64} {M : ej_Mem}, decode (ej_b me) pc = .ok (.lreturn, 1) → ej_rt me = some .long → some (some (.long v), M) = some r → ej_G p l e R s m args below meth c Q D cA a0 bs vZ L xs me z0 s0 pc ls [.long v] M) (hA : ∀ {pc : Nat} {ls : ej_L} {q : Option Nat} {M : ej_Mem}, decode (ej_b me) pc = .ok (.areturn, 1) → ej_rr (ej_rt me) = true → some (some (va_rf q), M) = some r → ej_G p l e R s m args below meth c Q D cA a0 bs vZ L xs me z0 s0 pc ls [va_rf q] M) (hV : ∀ {pc : Nat} {ls : ej_L} {M : ej_Mem}, decode (ej_b me) pc = .ok (.return_, 1) → ej_rt me = none → some (none, M) = some r → ej_G p l e R s m args below meth c Q D cA a0 bs vZ L xs me z0 s0 pc ls [] M) : ej_G p l e R s m args below meth c Q D cA a0 bs vZ L xs me z0 s0 pc ls st M := by
  obtain ⟨op, a, b, d, cc, ee⟩ := i
  simp only [ej_mt, Bool.and_eq_true, Bool.or_eq_true, decide_eq_true_eq] at hm
  obtain ⟨eop, eln, c1⟩ := hm
  have eop := Nat.eq_of_beq_eq_true eop
  subst eop
  have eln := Nat.eq_of_beq_eq_true eln
  subst eln
  replace h : (ej_ld ls a fun v => uI [v] fun x _ => K (pc + 2) ls (.int x :: st) M) = some r := h
  replace h := ld_some h
  obtain ⟨v, hv, h⟩ := h
  replace h := uI_some h
  obtain ⟨x, r1, hx, h⟩ := h
  obtain ⟨rfl, -⟩ := List.cons.inj hx
  exact sd_iload C hd (by rw [Nat.eq_of_beq_eq_true c1]; exact hv) (hK _ _ _ _ h)
set_option maxHeartbeats 1000000 in
theorem so_7 (C : ej_Cx p s m args meth c D cA a0 bs vZ L xs me) {n : Fin 4} (hd : decode (ej_b me) pc = .ok (.iload_n n, len)) (hm : ej_mt me pc len (.iload_n n) i = true) (h : ej_stp ej_sw cl i pc len ls st M K = some r) (hK : ∀ pc ls st M, K pc ls st M = some r → ej_G p l e R s m args below meth c Q D cA a0 bs vZ L xs me z0 s0 pc ls st M) (hmo : ∀ pc ls st M, K pc ls st M = some r → mZ M ≤ mZ r.2 ∧ mS M ≤ mS r.2) (hRc : mZ r.2 - z0 ≤ R.cells ∧ mS r.2 - s0 ≤ R.slots) (hR : d0 + 1 ≤ R.frames ∧ 38 * (d0 + 1) ≤ R.locals) (hcl : ∀ m av M1 v M2, m < 221 → cl m av M1 = some (v, M2) → ej_Met l D cA a0 bs vZ L xs d0 m av M1 v M2 ∧ mZ M1 ≤ mZ M2 ∧ mS M1 ≤ mS M2) (hI : ∀ {pc a : Nat} {ls : ej_L} {v : Int32} {M : ej_Mem}, decode (ej_b me) pc = .ok (.ireturn, 1) → ej_rk (ej_rt me) a = true → ej_nar a v → some (some (.int v), M) = some r → ej_G p l e R s m args below meth c Q D cA a0 bs vZ L xs me z0 s0 pc ls [.int v] M) (hJ : ∀ {pc : Nat} {ls : ej_L} {v : Int64} {M : ej_Mem}, decode (ej_b me) pc = .ok (.lreturn, 1) → ej_rt me = some .long → some (some (.long v), M) = some r → ej_G p l e R s m args below meth c Q D cA a0 bs vZ L xs me z0 s0 pc ls [.long v] M) (hA : ∀ {pc : Nat} {ls : ej_L} {q : Option Nat} {M : ej_Mem}, decode (ej_b me) pc = .ok (.areturn, 1) → ej_rr (ej_rt me) = true → some (some (va_rf q), M) = some r → ej_G p l e R s m args below meth c Q D cA a0 bs vZ L xs me z0 s0 pc ls [va_rf q] M) (hV : ∀ {pc : Nat} {ls : ej_L} {M : ej_Mem}, decode (ej_b me) pc = .ok (.return_, 1) → ej_rt me = none → some (none, M) = some r → ej_G p l e R s m args below meth c Q D cA a0 bs vZ L xs me z0 s0 pc ls [] M) : ej_G p l e R s m args below meth c Q D cA a0 bs vZ L xs me z0 s0 pc ls st M := by
  obtain ⟨op, a, b, d, cc, ee⟩ := i
  simp only [ej_mt, Bool.and_eq_true, Bool.or_eq_true, decide_eq_true_eq] at hm
  obtain ⟨eop, eln, c1⟩ := hm
  have eop := Nat.eq_of_beq_eq_true eop
  subst eop
  have eln := Nat.eq_of_beq_eq_true eln
  subst eln
  replace h : (ej_ld ls a fun v => uI [v] fun x _ => K (pc + 1) ls (.int x :: st) M) = some r := h
  replace h := ld_some h
  obtain ⟨v, hv, h⟩ := h
  replace h := uI_some h
  obtain ⟨x, r1, hx, h⟩ := h
  obtain ⟨rfl, -⟩ := List.cons.inj hx
  exact sd_iload_n C hd (Nat.eq_of_beq_eq_true c1) hv (hK _ _ _ _ h)
set_option maxHeartbeats 1000000 in
theorem so_8 (C : ej_Cx p s m args meth c D cA a0 bs vZ L xs me) {n : Nat} (hd : decode (ej_b me) pc = .ok (.lload n, len)) (hm : ej_mt me pc len (.lload n) i = true) (h : ej_stp ej_sw cl i pc len ls st M K = some r) (hK : ∀ pc ls st M, K pc ls st M = some r → ej_G p l e R s m args below meth c Q D cA a0 bs vZ L xs me z0 s0 pc ls st M) (hmo : ∀ pc ls st M, K pc ls st M = some r → mZ M ≤ mZ r.2 ∧ mS M ≤ mS r.2) (hRc : mZ r.2 - z0 ≤ R.cells ∧ mS r.2 - s0 ≤ R.slots) (hR : d0 + 1 ≤ R.frames ∧ 38 * (d0 + 1) ≤ R.locals) (hcl : ∀ m av M1 v M2, m < 221 → cl m av M1 = some (v, M2) → ej_Met l D cA a0 bs vZ L xs d0 m av M1 v M2 ∧ mZ M1 ≤ mZ M2 ∧ mS M1 ≤ mS M2) (hI : ∀ {pc a : Nat} {ls : ej_L} {v : Int32} {M : ej_Mem}, decode (ej_b me) pc = .ok (.ireturn, 1) → ej_rk (ej_rt me) a = true → ej_nar a v → some (some (.int v), M) = some r → ej_G p l e R s m args below meth c Q D cA a0 bs vZ L xs me z0 s0 pc ls [.int v] M) (hJ : ∀ {pc : Nat} {ls : ej_L} {v : Int64} {M : ej_Mem}, decode (ej_b me) pc = .ok (.lreturn, 1) → ej_rt me = some .long → some (some (.long v), M) = some r → ej_G p l e R s m args below meth c Q D cA a0 bs vZ L xs me z0 s0 pc ls [.long v] M) (hA : ∀ {pc : Nat} {ls : ej_L} {q : Option Nat} {M : ej_Mem}, decode (ej_b me) pc = .ok (.areturn, 1) → ej_rr (ej_rt me) = true → some (some (va_rf q), M) = some r → ej_G p l e R s m args below meth c Q D cA a0 bs vZ L xs me z0 s0 pc ls [va_rf q] M) (hV : ∀ {pc : Nat} {ls : ej_L} {M : ej_Mem}, decode (ej_b me) pc = .ok (.return_, 1) → ej_rt me = none → some (none, M) = some r → ej_G p l e R s m args below meth c Q D cA a0 bs vZ L xs me z0 s0 pc ls [] M) : ej_G p l e R s m args below meth c Q D cA a0 bs vZ L xs me z0 s0 pc ls st M := by
  obtain ⟨op, a, b, d, cc, ee⟩ := i
  simp only [ej_mt, Bool.and_eq_true, Bool.or_eq_true, decide_eq_true_eq] at hm
  obtain ⟨eop, eln, c1⟩ := hm
  have eop := Nat.eq_of_beq_eq_true eop
  subst eop
  have eln := Nat.eq_of_beq_eq_true eln
  subst eln
  replace h : (ej_ld ls a fun v => uL [v] fun x _ => K (pc + 2) ls (.long x :: st) M) = some r := h
  replace h := ld_some h
  obtain ⟨v, hv, h⟩ := h
  replace h := uL_some h
  obtain ⟨x, r1, hx, h⟩ := h
  obtain ⟨rfl, -⟩ := List.cons.inj hx
  exact sd_lload C hd (by rw [Nat.eq_of_beq_eq_true c1]; exact hv) (hK _ _ _ _ h)
set_option maxHeartbeats 1000000 in
theorem so_9 (C : ej_Cx p s m args meth c D cA a0 bs vZ L xs me) {n : Fin 4} (hd : decode (ej_b me) pc = .ok (.lload_n n, len)) (hm : ej_mt me pc len (.lload_n n) i = true) (h : ej_stp ej_sw cl i pc len ls st M K = some r) (hK : ∀ pc ls st M, K pc ls st M = some r → ej_G p l e R s m args below meth c Q D cA a0 bs vZ L xs me z0 s0 pc ls st M) (hmo : ∀ pc ls st M, K pc ls st M = some r → mZ M ≤ mZ r.2 ∧ mS M ≤ mS r.2) (hRc : mZ r.2 - z0 ≤ R.cells ∧ mS r.2 - s0 ≤ R.slots) (hR : d0 + 1 ≤ R.frames ∧ 38 * (d0 + 1) ≤ R.locals) (hcl : ∀ m av M1 v M2, m < 221 → cl m av M1 = some (v, M2) → ej_Met l D cA a0 bs vZ L xs d0 m av M1 v M2 ∧ mZ M1 ≤ mZ M2 ∧ mS M1 ≤ mS M2) (hI : ∀ {pc a : Nat} {ls : ej_L} {v : Int32} {M : ej_Mem}, decode (ej_b me) pc = .ok (.ireturn, 1) → ej_rk (ej_rt me) a = true → ej_nar a v → some (some (.int v), M) = some r → ej_G p l e R s m args below meth c Q D cA a0 bs vZ L xs me z0 s0 pc ls [.int v] M) (hJ : ∀ {pc : Nat} {ls : ej_L} {v : Int64} {M : ej_Mem}, decode (ej_b me) pc = .ok (.lreturn, 1) → ej_rt me = some .long → some (some (.long v), M) = some r → ej_G p l e R s m args below meth c Q D cA a0 bs vZ L xs me z0 s0 pc ls [.long v] M) (hA : ∀ {pc : Nat} {ls : ej_L} {q : Option Nat} {M : ej_Mem}, decode (ej_b me) pc = .ok (.areturn, 1) → ej_rr (ej_rt me) = true → some (some (va_rf q), M) = some r → ej_G p l e R s m args below meth c Q D cA a0 bs vZ L xs me z0 s0 pc ls [va_rf q] M) (hV : ∀ {pc : Nat} {ls : ej_L} {M : ej_Mem}, decode (ej_b me) pc = .ok (.return_, 1) → ej_rt me = none → some (none, M) = some r → ej_G p l e R s m args below meth c Q D cA a0 bs vZ L xs me z0 s0 pc ls [] M) : ej_G p l e R s m args below meth c Q D cA a0 bs vZ L xs me z0 s0 pc ls st M := by
  obtain ⟨op, a, b, d, cc, ee⟩ := i
  simp only [ej_mt, Bool.and_eq_true, Bool.or_eq_true, decide_eq_true_eq] at hm
  obtain ⟨eop, eln, c1⟩ := hm
  have eop := Nat.eq_of_beq_eq_true eop
  subst eop
  have eln := Nat.eq_of_beq_eq_true eln
  subst eln
  replace h : (ej_ld ls a fun v => uL [v] fun x _ => K (pc + 1) ls (.long x :: st) M) = some r := h
  replace h := ld_some h
  obtain ⟨v, hv, h⟩ := h
  replace h := uL_some h
  obtain ⟨x, r1, hx, h⟩ := h
  obtain ⟨rfl, -⟩ := List.cons.inj hx
  exact sd_lload_n C hd (Nat.eq_of_beq_eq_true c1) hv (hK _ _ _ _ h)
set_option maxHeartbeats 1000000 in
theorem so_10 (C : ej_Cx p s m args meth c D cA a0 bs vZ L xs me) {n : Nat} (hd : decode (ej_b me) pc = .ok (.aload n, len)) (hm : ej_mt me pc len (.aload n) i = true) (h : ej_stp ej_sw cl i pc len ls st M K = some r) (hK : ∀ pc ls st M, K pc ls st M = some r → ej_G p l e R s m args below meth c Q D cA a0 bs vZ L xs me z0 s0 pc ls st M) (hmo : ∀ pc ls st M, K pc ls st M = some r → mZ M ≤ mZ r.2 ∧ mS M ≤ mS r.2) (hRc : mZ r.2 - z0 ≤ R.cells ∧ mS r.2 - s0 ≤ R.slots) (hR : d0 + 1 ≤ R.frames ∧ 38 * (d0 + 1) ≤ R.locals) (hcl : ∀ m av M1 v M2, m < 221 → cl m av M1 = some (v, M2) → ej_Met l D cA a0 bs vZ L xs d0 m av M1 v M2 ∧ mZ M1 ≤ mZ M2 ∧ mS M1 ≤ mS M2) (hI : ∀ {pc a : Nat} {ls : ej_L} {v : Int32} {M : ej_Mem}, decode (ej_b me) pc = .ok (.ireturn, 1) → ej_rk (ej_rt me) a = true → ej_nar a v → some (some (.int v), M) = some r → ej_G p l e R s m args below meth c Q D cA a0 bs vZ L xs me z0 s0 pc ls [.int v] M) (hJ : ∀ {pc : Nat} {ls : ej_L} {v : Int64} {M : ej_Mem}, decode (ej_b me) pc = .ok (.lreturn, 1) → ej_rt me = some .long → some (some (.long v), M) = some r → ej_G p l e R s m args below meth c Q D cA a0 bs vZ L xs me z0 s0 pc ls [.long v] M) (hA : ∀ {pc : Nat} {ls : ej_L} {q : Option Nat} {M : ej_Mem}, decode (ej_b me) pc = .ok (.areturn, 1) → ej_rr (ej_rt me) = true → some (some (va_rf q), M) = some r → ej_G p l e R s m args below meth c Q D cA a0 bs vZ L xs me z0 s0 pc ls [va_rf q] M) (hV : ∀ {pc : Nat} {ls : ej_L} {M : ej_Mem}, decode (ej_b me) pc = .ok (.return_, 1) → ej_rt me = none → some (none, M) = some r → ej_G p l e R s m args below meth c Q D cA a0 bs vZ L xs me z0 s0 pc ls [] M) : ej_G p l e R s m args below meth c Q D cA a0 bs vZ L xs me z0 s0 pc ls st M := by
  obtain ⟨op, a, b, d, cc, ee⟩ := i
  simp only [ej_mt, Bool.and_eq_true, Bool.or_eq_true, decide_eq_true_eq] at hm
  obtain ⟨eop, eln, c1⟩ := hm
  have eop := Nat.eq_of_beq_eq_true eop
  subst eop
  have eln := Nat.eq_of_beq_eq_true eln
  subst eln
  replace h : (ej_ld ls a fun v => uW v (K (pc + 2) ls (v :: st) M)) = some r := h
  replace h := ld_some h
  obtain ⟨v, hv, h⟩ := h
  replace h := uW_some (a0 := a0) (bs := bs) C.2.2.2.2.2.1.2.2.2.2.2 h
  obtain ⟨hq, h⟩ := h
  exact sd_aloadV C hd (by rw [Nat.eq_of_beq_eq_true c1]; exact hv) rfl hq (hK _ _ _ _ h)
set_option maxHeartbeats 1000000 in
theorem so_11 (C : ej_Cx p s m args meth c D cA a0 bs vZ L xs me) {n : Fin 4} (hd : decode (ej_b me) pc = .ok (.aload_n n, len)) (hm : ej_mt me pc len (.aload_n n) i = true) (h : ej_stp ej_sw cl i pc len ls st M K = some r) (hK : ∀ pc ls st M, K pc ls st M = some r → ej_G p l e R s m args below meth c Q D cA a0 bs vZ L xs me z0 s0 pc ls st M) (hmo : ∀ pc ls st M, K pc ls st M = some r → mZ M ≤ mZ r.2 ∧ mS M ≤ mS r.2) (hRc : mZ r.2 - z0 ≤ R.cells ∧ mS r.2 - s0 ≤ R.slots) (hR : d0 + 1 ≤ R.frames ∧ 38 * (d0 + 1) ≤ R.locals) (hcl : ∀ m av M1 v M2, m < 221 → cl m av M1 = some (v, M2) → ej_Met l D cA a0 bs vZ L xs d0 m av M1 v M2 ∧ mZ M1 ≤ mZ M2 ∧ mS M1 ≤ mS M2) (hI : ∀ {pc a : Nat} {ls : ej_L} {v : Int32} {M : ej_Mem}, decode (ej_b me) pc = .ok (.ireturn, 1) → ej_rk (ej_rt me) a = true → ej_nar a v → some (some (.int v), M) = some r → ej_G p l e R s m args below meth c Q D cA a0 bs vZ L xs me z0 s0 pc ls [.int v] M) (hJ : ∀ {pc : Nat} {ls : ej_L} {v : Int64} {M : ej_Mem}, decode (ej_b me) pc = .ok (.lreturn, 1) → ej_rt me = some .long → some (some (.long v), M) = some r → ej_G p l e R s m args below meth c Q D cA a0 bs vZ L xs me z0 s0 pc ls [.long v] M) (hA : ∀ {pc : Nat} {ls : ej_L} {q : Option Nat} {M : ej_Mem}, decode (ej_b me) pc = .ok (.areturn, 1) → ej_rr (ej_rt me) = true → some (some (va_rf q), M) = some r → ej_G p l e R s m args below meth c Q D cA a0 bs vZ L xs me z0 s0 pc ls [va_rf q] M) (hV : ∀ {pc : Nat} {ls : ej_L} {M : ej_Mem}, decode (ej_b me) pc = .ok (.return_, 1) → ej_rt me = none → some (none, M) = some r → ej_G p l e R s m args below meth c Q D cA a0 bs vZ L xs me z0 s0 pc ls [] M) : ej_G p l e R s m args below meth c Q D cA a0 bs vZ L xs me z0 s0 pc ls st M := by
  obtain ⟨op, a, b, d, cc, ee⟩ := i
  simp only [ej_mt, Bool.and_eq_true, Bool.or_eq_true, decide_eq_true_eq] at hm
  obtain ⟨eop, eln, c1⟩ := hm
  have eop := Nat.eq_of_beq_eq_true eop
  subst eop
  have eln := Nat.eq_of_beq_eq_true eln
  subst eln
  replace h : (ej_ld ls a fun v => uW v (K (pc + 1) ls (v :: st) M)) = some r := h
  replace h := ld_some h
  obtain ⟨v, hv, h⟩ := h
  replace h := uW_some (a0 := a0) (bs := bs) C.2.2.2.2.2.1.2.2.2.2.2 h
  obtain ⟨hq, h⟩ := h
  exact sd_aload_nV C hd (Nat.eq_of_beq_eq_true c1) hv rfl hq (hK _ _ _ _ h)
set_option maxHeartbeats 1000000 in
theorem so_12 (C : ej_Cx p s m args meth c D cA a0 bs vZ L xs me) {n : Nat} (hd : decode (ej_b me) pc = .ok (.istore n, len)) (hm : ej_mt me pc len (.istore n) i = true) (h : ej_stp ej_sw cl i pc len ls st M K = some r) (hK : ∀ pc ls st M, K pc ls st M = some r → ej_G p l e R s m args below meth c Q D cA a0 bs vZ L xs me z0 s0 pc ls st M) (hmo : ∀ pc ls st M, K pc ls st M = some r → mZ M ≤ mZ r.2 ∧ mS M ≤ mS r.2) (hRc : mZ r.2 - z0 ≤ R.cells ∧ mS r.2 - s0 ≤ R.slots) (hR : d0 + 1 ≤ R.frames ∧ 38 * (d0 + 1) ≤ R.locals) (hcl : ∀ m av M1 v M2, m < 221 → cl m av M1 = some (v, M2) → ej_Met l D cA a0 bs vZ L xs d0 m av M1 v M2 ∧ mZ M1 ≤ mZ M2 ∧ mS M1 ≤ mS M2) (hI : ∀ {pc a : Nat} {ls : ej_L} {v : Int32} {M : ej_Mem}, decode (ej_b me) pc = .ok (.ireturn, 1) → ej_rk (ej_rt me) a = true → ej_nar a v → some (some (.int v), M) = some r → ej_G p l e R s m args below meth c Q D cA a0 bs vZ L xs me z0 s0 pc ls [.int v] M) (hJ : ∀ {pc : Nat} {ls : ej_L} {v : Int64} {M : ej_Mem}, decode (ej_b me) pc = .ok (.lreturn, 1) → ej_rt me = some .long → some (some (.long v), M) = some r → ej_G p l e R s m args below meth c Q D cA a0 bs vZ L xs me z0 s0 pc ls [.long v] M) (hA : ∀ {pc : Nat} {ls : ej_L} {q : Option Nat} {M : ej_Mem}, decode (ej_b me) pc = .ok (.areturn, 1) → ej_rr (ej_rt me) = true → some (some (va_rf q), M) = some r → ej_G p l e R s m args below meth c Q D cA a0 bs vZ L xs me z0 s0 pc ls [va_rf q] M) (hV : ∀ {pc : Nat} {ls : ej_L} {M : ej_Mem}, decode (ej_b me) pc = .ok (.return_, 1) → ej_rt me = none → some (none, M) = some r → ej_G p l e R s m args below meth c Q D cA a0 bs vZ L xs me z0 s0 pc ls [] M) : ej_G p l e R s m args below meth c Q D cA a0 bs vZ L xs me z0 s0 pc ls st M := by
  obtain ⟨op, a, b, d, cc, ee⟩ := i
  simp only [ej_mt, Bool.and_eq_true, Bool.or_eq_true, decide_eq_true_eq] at hm
  obtain ⟨eop, eln, c1⟩ := hm
  have eop := Nat.eq_of_beq_eq_true eop
  subst eop
  have eln := Nat.eq_of_beq_eq_true eln
  subst eln
  replace h : (uI st fun v r => ckk (a < ls.length) (K (pc + 2) (ej_s1 ls a (.int v)) r M)) = some r := h
  replace h := uI_some h
  obtain ⟨x, r1, rfl, h⟩ := h
  replace h := ckk_some h
  obtain ⟨k1, h⟩ := h
  have e1 := Nat.eq_of_beq_eq_true c1
  subst e1
  exact sd_istore C hd k1 (hK _ _ _ _ h)
set_option maxHeartbeats 1000000 in
theorem so_13 (C : ej_Cx p s m args meth c D cA a0 bs vZ L xs me) {n : Fin 4} (hd : decode (ej_b me) pc = .ok (.istore_n n, len)) (hm : ej_mt me pc len (.istore_n n) i = true) (h : ej_stp ej_sw cl i pc len ls st M K = some r) (hK : ∀ pc ls st M, K pc ls st M = some r → ej_G p l e R s m args below meth c Q D cA a0 bs vZ L xs me z0 s0 pc ls st M) (hmo : ∀ pc ls st M, K pc ls st M = some r → mZ M ≤ mZ r.2 ∧ mS M ≤ mS r.2) (hRc : mZ r.2 - z0 ≤ R.cells ∧ mS r.2 - s0 ≤ R.slots) (hR : d0 + 1 ≤ R.frames ∧ 38 * (d0 + 1) ≤ R.locals) (hcl : ∀ m av M1 v M2, m < 221 → cl m av M1 = some (v, M2) → ej_Met l D cA a0 bs vZ L xs d0 m av M1 v M2 ∧ mZ M1 ≤ mZ M2 ∧ mS M1 ≤ mS M2) (hI : ∀ {pc a : Nat} {ls : ej_L} {v : Int32} {M : ej_Mem}, decode (ej_b me) pc = .ok (.ireturn, 1) → ej_rk (ej_rt me) a = true → ej_nar a v → some (some (.int v), M) = some r → ej_G p l e R s m args below meth c Q D cA a0 bs vZ L xs me z0 s0 pc ls [.int v] M) (hJ : ∀ {pc : Nat} {ls : ej_L} {v : Int64} {M : ej_Mem}, decode (ej_b me) pc = .ok (.lreturn, 1) → ej_rt me = some .long → some (some (.long v), M) = some r → ej_G p l e R s m args below meth c Q D cA a0 bs vZ L xs me z0 s0 pc ls [.long v] M) (hA : ∀ {pc : Nat} {ls : ej_L} {q : Option Nat} {M : ej_Mem}, decode (ej_b me) pc = .ok (.areturn, 1) → ej_rr (ej_rt me) = true → some (some (va_rf q), M) = some r → ej_G p l e R s m args below meth c Q D cA a0 bs vZ L xs me z0 s0 pc ls [va_rf q] M) (hV : ∀ {pc : Nat} {ls : ej_L} {M : ej_Mem}, decode (ej_b me) pc = .ok (.return_, 1) → ej_rt me = none → some (none, M) = some r → ej_G p l e R s m args below meth c Q D cA a0 bs vZ L xs me z0 s0 pc ls [] M) : ej_G p l e R s m args below meth c Q D cA a0 bs vZ L xs me z0 s0 pc ls st M := by
  obtain ⟨op, a, b, d, cc, ee⟩ := i
  simp only [ej_mt, Bool.and_eq_true, Bool.or_eq_true, decide_eq_true_eq] at hm
  obtain ⟨eop, eln, c1⟩ := hm
  have eop := Nat.eq_of_beq_eq_true eop
  subst eop
  have eln := Nat.eq_of_beq_eq_true eln
  subst eln
  replace h : (uI st fun v r => ckk (a < ls.length) (K (pc + 1) (ej_s1 ls a (.int v)) r M)) = some r := h
  replace h := uI_some h
  obtain ⟨x, r1, rfl, h⟩ := h
  replace h := ckk_some h
  obtain ⟨k1, h⟩ := h
  exact sd_istore_n C hd (Nat.eq_of_beq_eq_true c1) k1 (hK _ _ _ _ h)
set_option maxHeartbeats 1000000 in
theorem so_14 (C : ej_Cx p s m args meth c D cA a0 bs vZ L xs me) {n : Nat} (hd : decode (ej_b me) pc = .ok (.lstore n, len)) (hm : ej_mt me pc len (.lstore n) i = true) (h : ej_stp ej_sw cl i pc len ls st M K = some r) (hK : ∀ pc ls st M, K pc ls st M = some r → ej_G p l e R s m args below meth c Q D cA a0 bs vZ L xs me z0 s0 pc ls st M) (hmo : ∀ pc ls st M, K pc ls st M = some r → mZ M ≤ mZ r.2 ∧ mS M ≤ mS r.2) (hRc : mZ r.2 - z0 ≤ R.cells ∧ mS r.2 - s0 ≤ R.slots) (hR : d0 + 1 ≤ R.frames ∧ 38 * (d0 + 1) ≤ R.locals) (hcl : ∀ m av M1 v M2, m < 221 → cl m av M1 = some (v, M2) → ej_Met l D cA a0 bs vZ L xs d0 m av M1 v M2 ∧ mZ M1 ≤ mZ M2 ∧ mS M1 ≤ mS M2) (hI : ∀ {pc a : Nat} {ls : ej_L} {v : Int32} {M : ej_Mem}, decode (ej_b me) pc = .ok (.ireturn, 1) → ej_rk (ej_rt me) a = true → ej_nar a v → some (some (.int v), M) = some r → ej_G p l e R s m args below meth c Q D cA a0 bs vZ L xs me z0 s0 pc ls [.int v] M) (hJ : ∀ {pc : Nat} {ls : ej_L} {v : Int64} {M : ej_Mem}, decode (ej_b me) pc = .ok (.lreturn, 1) → ej_rt me = some .long → some (some (.long v), M) = some r → ej_G p l e R s m args below meth c Q D cA a0 bs vZ L xs me z0 s0 pc ls [.long v] M) (hA : ∀ {pc : Nat} {ls : ej_L} {q : Option Nat} {M : ej_Mem}, decode (ej_b me) pc = .ok (.areturn, 1) → ej_rr (ej_rt me) = true → some (some (va_rf q), M) = some r → ej_G p l e R s m args below meth c Q D cA a0 bs vZ L xs me z0 s0 pc ls [va_rf q] M) (hV : ∀ {pc : Nat} {ls : ej_L} {M : ej_Mem}, decode (ej_b me) pc = .ok (.return_, 1) → ej_rt me = none → some (none, M) = some r → ej_G p l e R s m args below meth c Q D cA a0 bs vZ L xs me z0 s0 pc ls [] M) : ej_G p l e R s m args below meth c Q D cA a0 bs vZ L xs me z0 s0 pc ls st M := by
  obtain ⟨op, a, b, d, cc, ee⟩ := i
  simp only [ej_mt, Bool.and_eq_true, Bool.or_eq_true, decide_eq_true_eq] at hm
  obtain ⟨eop, eln, c1⟩ := hm
  have eop := Nat.eq_of_beq_eq_true eop
  subst eop
  have eln := Nat.eq_of_beq_eq_true eln
  subst eln
  replace h : (uL st fun v r => ckk (a + 1 < ls.length) (K (pc + 2) (ej_s2 ls a (.long v)) r M)) = some r := h
  replace h := uL_some h
  obtain ⟨x, r1, rfl, h⟩ := h
  replace h := ckk_some h
  obtain ⟨k1, h⟩ := h
  have e1 := Nat.eq_of_beq_eq_true c1
  subst e1
  exact sd_lstore C hd k1 (hK _ _ _ _ h)
set_option maxHeartbeats 1000000 in
theorem so_15 (C : ej_Cx p s m args meth c D cA a0 bs vZ L xs me) {n : Fin 4} (hd : decode (ej_b me) pc = .ok (.lstore_n n, len)) (hm : ej_mt me pc len (.lstore_n n) i = true) (h : ej_stp ej_sw cl i pc len ls st M K = some r) (hK : ∀ pc ls st M, K pc ls st M = some r → ej_G p l e R s m args below meth c Q D cA a0 bs vZ L xs me z0 s0 pc ls st M) (hmo : ∀ pc ls st M, K pc ls st M = some r → mZ M ≤ mZ r.2 ∧ mS M ≤ mS r.2) (hRc : mZ r.2 - z0 ≤ R.cells ∧ mS r.2 - s0 ≤ R.slots) (hR : d0 + 1 ≤ R.frames ∧ 38 * (d0 + 1) ≤ R.locals) (hcl : ∀ m av M1 v M2, m < 221 → cl m av M1 = some (v, M2) → ej_Met l D cA a0 bs vZ L xs d0 m av M1 v M2 ∧ mZ M1 ≤ mZ M2 ∧ mS M1 ≤ mS M2) (hI : ∀ {pc a : Nat} {ls : ej_L} {v : Int32} {M : ej_Mem}, decode (ej_b me) pc = .ok (.ireturn, 1) → ej_rk (ej_rt me) a = true → ej_nar a v → some (some (.int v), M) = some r → ej_G p l e R s m args below meth c Q D cA a0 bs vZ L xs me z0 s0 pc ls [.int v] M) (hJ : ∀ {pc : Nat} {ls : ej_L} {v : Int64} {M : ej_Mem}, decode (ej_b me) pc = .ok (.lreturn, 1) → ej_rt me = some .long → some (some (.long v), M) = some r → ej_G p l e R s m args below meth c Q D cA a0 bs vZ L xs me z0 s0 pc ls [.long v] M) (hA : ∀ {pc : Nat} {ls : ej_L} {q : Option Nat} {M : ej_Mem}, decode (ej_b me) pc = .ok (.areturn, 1) → ej_rr (ej_rt me) = true → some (some (va_rf q), M) = some r → ej_G p l e R s m args below meth c Q D cA a0 bs vZ L xs me z0 s0 pc ls [va_rf q] M) (hV : ∀ {pc : Nat} {ls : ej_L} {M : ej_Mem}, decode (ej_b me) pc = .ok (.return_, 1) → ej_rt me = none → some (none, M) = some r → ej_G p l e R s m args below meth c Q D cA a0 bs vZ L xs me z0 s0 pc ls [] M) : ej_G p l e R s m args below meth c Q D cA a0 bs vZ L xs me z0 s0 pc ls st M := by
  obtain ⟨op, a, b, d, cc, ee⟩ := i
  simp only [ej_mt, Bool.and_eq_true, Bool.or_eq_true, decide_eq_true_eq] at hm
  obtain ⟨eop, eln, c1⟩ := hm
  have eop := Nat.eq_of_beq_eq_true eop
  subst eop
  have eln := Nat.eq_of_beq_eq_true eln
  subst eln
  replace h : (uL st fun v r => ckk (a + 1 < ls.length) (K (pc + 1) (ej_s2 ls a (.long v)) r M)) = some r := h
  replace h := uL_some h
  obtain ⟨x, r1, rfl, h⟩ := h
  replace h := ckk_some h
  obtain ⟨k1, h⟩ := h
  exact sd_lstore_n C hd (Nat.eq_of_beq_eq_true c1) k1 (hK _ _ _ _ h)
set_option maxHeartbeats 1000000 in
theorem so_16 (C : ej_Cx p s m args meth c D cA a0 bs vZ L xs me) {n : Nat} (hd : decode (ej_b me) pc = .ok (.astore n, len)) (hm : ej_mt me pc len (.astore n) i = true) (h : ej_stp ej_sw cl i pc len ls st M K = some r) (hK : ∀ pc ls st M, K pc ls st M = some r → ej_G p l e R s m args below meth c Q D cA a0 bs vZ L xs me z0 s0 pc ls st M) (hmo : ∀ pc ls st M, K pc ls st M = some r → mZ M ≤ mZ r.2 ∧ mS M ≤ mS r.2) (hRc : mZ r.2 - z0 ≤ R.cells ∧ mS r.2 - s0 ≤ R.slots) (hR : d0 + 1 ≤ R.frames ∧ 38 * (d0 + 1) ≤ R.locals) (hcl : ∀ m av M1 v M2, m < 221 → cl m av M1 = some (v, M2) → ej_Met l D cA a0 bs vZ L xs d0 m av M1 v M2 ∧ mZ M1 ≤ mZ M2 ∧ mS M1 ≤ mS M2) (hI : ∀ {pc a : Nat} {ls : ej_L} {v : Int32} {M : ej_Mem}, decode (ej_b me) pc = .ok (.ireturn, 1) → ej_rk (ej_rt me) a = true → ej_nar a v → some (some (.int v), M) = some r → ej_G p l e R s m args below meth c Q D cA a0 bs vZ L xs me z0 s0 pc ls [.int v] M) (hJ : ∀ {pc : Nat} {ls : ej_L} {v : Int64} {M : ej_Mem}, decode (ej_b me) pc = .ok (.lreturn, 1) → ej_rt me = some .long → some (some (.long v), M) = some r → ej_G p l e R s m args below meth c Q D cA a0 bs vZ L xs me z0 s0 pc ls [.long v] M) (hA : ∀ {pc : Nat} {ls : ej_L} {q : Option Nat} {M : ej_Mem}, decode (ej_b me) pc = .ok (.areturn, 1) → ej_rr (ej_rt me) = true → some (some (va_rf q), M) = some r → ej_G p l e R s m args below meth c Q D cA a0 bs vZ L xs me z0 s0 pc ls [va_rf q] M) (hV : ∀ {pc : Nat} {ls : ej_L} {M : ej_Mem}, decode (ej_b me) pc = .ok (.return_, 1) → ej_rt me = none → some (none, M) = some r → ej_G p l e R s m args below meth c Q D cA a0 bs vZ L xs me z0 s0 pc ls [] M) : ej_G p l e R s m args below meth c Q D cA a0 bs vZ L xs me z0 s0 pc ls st M := by
  obtain ⟨op, a, b, d, cc, ee⟩ := i
  simp only [ej_mt, Bool.and_eq_true, Bool.or_eq_true, decide_eq_true_eq] at hm
  obtain ⟨eop, eln, c1⟩ := hm
  have eop := Nat.eq_of_beq_eq_true eop
  subst eop
  have eln := Nat.eq_of_beq_eq_true eln
  subst eln
  replace h : (uQ st fun v r => ckk (a < ls.length) (K (pc + 2) (ej_s1 ls a (va_rf v)) r M)) = some r := h
  replace h := uQ_some h
  obtain ⟨q, r1, rfl, h⟩ := h
  replace h := ckk_some h
  obtain ⟨k1, h⟩ := h
  have e1 := Nat.eq_of_beq_eq_true c1
  subst e1
  exact sd_astore C hd k1 (hK _ _ _ _ h)
set_option maxHeartbeats 1000000 in
theorem so_17 (C : ej_Cx p s m args meth c D cA a0 bs vZ L xs me) {n : Fin 4} (hd : decode (ej_b me) pc = .ok (.astore_n n, len)) (hm : ej_mt me pc len (.astore_n n) i = true) (h : ej_stp ej_sw cl i pc len ls st M K = some r) (hK : ∀ pc ls st M, K pc ls st M = some r → ej_G p l e R s m args below meth c Q D cA a0 bs vZ L xs me z0 s0 pc ls st M) (hmo : ∀ pc ls st M, K pc ls st M = some r → mZ M ≤ mZ r.2 ∧ mS M ≤ mS r.2) (hRc : mZ r.2 - z0 ≤ R.cells ∧ mS r.2 - s0 ≤ R.slots) (hR : d0 + 1 ≤ R.frames ∧ 38 * (d0 + 1) ≤ R.locals) (hcl : ∀ m av M1 v M2, m < 221 → cl m av M1 = some (v, M2) → ej_Met l D cA a0 bs vZ L xs d0 m av M1 v M2 ∧ mZ M1 ≤ mZ M2 ∧ mS M1 ≤ mS M2) (hI : ∀ {pc a : Nat} {ls : ej_L} {v : Int32} {M : ej_Mem}, decode (ej_b me) pc = .ok (.ireturn, 1) → ej_rk (ej_rt me) a = true → ej_nar a v → some (some (.int v), M) = some r → ej_G p l e R s m args below meth c Q D cA a0 bs vZ L xs me z0 s0 pc ls [.int v] M) (hJ : ∀ {pc : Nat} {ls : ej_L} {v : Int64} {M : ej_Mem}, decode (ej_b me) pc = .ok (.lreturn, 1) → ej_rt me = some .long → some (some (.long v), M) = some r → ej_G p l e R s m args below meth c Q D cA a0 bs vZ L xs me z0 s0 pc ls [.long v] M) (hA : ∀ {pc : Nat} {ls : ej_L} {q : Option Nat} {M : ej_Mem}, decode (ej_b me) pc = .ok (.areturn, 1) → ej_rr (ej_rt me) = true → some (some (va_rf q), M) = some r → ej_G p l e R s m args below meth c Q D cA a0 bs vZ L xs me z0 s0 pc ls [va_rf q] M) (hV : ∀ {pc : Nat} {ls : ej_L} {M : ej_Mem}, decode (ej_b me) pc = .ok (.return_, 1) → ej_rt me = none → some (none, M) = some r → ej_G p l e R s m args below meth c Q D cA a0 bs vZ L xs me z0 s0 pc ls [] M) : ej_G p l e R s m args below meth c Q D cA a0 bs vZ L xs me z0 s0 pc ls st M := by
  obtain ⟨op, a, b, d, cc, ee⟩ := i
  simp only [ej_mt, Bool.and_eq_true, Bool.or_eq_true, decide_eq_true_eq] at hm
  obtain ⟨eop, eln, c1⟩ := hm
  have eop := Nat.eq_of_beq_eq_true eop
  subst eop
  have eln := Nat.eq_of_beq_eq_true eln
  subst eln
  replace h : (uQ st fun v r => ckk (a < ls.length) (K (pc + 1) (ej_s1 ls a (va_rf v)) r M)) = some r := h
  replace h := uQ_some h
  obtain ⟨q, r1, rfl, h⟩ := h
  replace h := ckk_some h
  obtain ⟨k1, h⟩ := h
  exact sd_astore_n C hd (Nat.eq_of_beq_eq_true c1) k1 (hK _ _ _ _ h)
set_option maxHeartbeats 1000000 in
theorem so_18 (C : ej_Cx p s m args meth c D cA a0 bs vZ L xs me) {n : Nat} {q : Int} (hd : decode (ej_b me) pc = .ok (.iinc n q, len)) (hm : ej_mt me pc len (.iinc n q) i = true) (h : ej_stp ej_sw cl i pc len ls st M K = some r) (hK : ∀ pc ls st M, K pc ls st M = some r → ej_G p l e R s m args below meth c Q D cA a0 bs vZ L xs me z0 s0 pc ls st M) (hmo : ∀ pc ls st M, K pc ls st M = some r → mZ M ≤ mZ r.2 ∧ mS M ≤ mS r.2) (hRc : mZ r.2 - z0 ≤ R.cells ∧ mS r.2 - s0 ≤ R.slots) (hR : d0 + 1 ≤ R.frames ∧ 38 * (d0 + 1) ≤ R.locals) (hcl : ∀ m av M1 v M2, m < 221 → cl m av M1 = some (v, M2) → ej_Met l D cA a0 bs vZ L xs d0 m av M1 v M2 ∧ mZ M1 ≤ mZ M2 ∧ mS M1 ≤ mS M2) (hI : ∀ {pc a : Nat} {ls : ej_L} {v : Int32} {M : ej_Mem}, decode (ej_b me) pc = .ok (.ireturn, 1) → ej_rk (ej_rt me) a = true → ej_nar a v → some (some (.int v), M) = some r → ej_G p l e R s m args below meth c Q D cA a0 bs vZ L xs me z0 s0 pc ls [.int v] M) (hJ : ∀ {pc : Nat} {ls : ej_L} {v : Int64} {M : ej_Mem}, decode (ej_b me) pc = .ok (.lreturn, 1) → ej_rt me = some .long → some (some (.long v), M) = some r → ej_G p l e R s m args below meth c Q D cA a0 bs vZ L xs me z0 s0 pc ls [.long v] M) (hA : ∀ {pc : Nat} {ls : ej_L} {q : Option Nat} {M : ej_Mem}, decode (ej_b me) pc = .ok (.areturn, 1) → ej_rr (ej_rt me) = true → some (some (va_rf q), M) = some r → ej_G p l e R s m args below meth c Q D cA a0 bs vZ L xs me z0 s0 pc ls [va_rf q] M) (hV : ∀ {pc : Nat} {ls : ej_L} {M : ej_Mem}, decode (ej_b me) pc = .ok (.return_, 1) → ej_rt me = none → some (none, M) = some r → ej_G p l e R s m args below meth c Q D cA a0 bs vZ L xs me z0 s0 pc ls [] M) : ej_G p l e R s m args below meth c Q D cA a0 bs vZ L xs me z0 s0 pc ls st M := by
  obtain ⟨op, a, b, d, cc, ee⟩ := i
  simp only [ej_mt, Bool.and_eq_true, Bool.or_eq_true, decide_eq_true_eq] at hm
  obtain ⟨eop, eln, c1, c2⟩ := hm
  have eop := Nat.eq_of_beq_eq_true eop
  subst eop
  have eln := Nat.eq_of_beq_eq_true eln
  subst eln
  replace h : (ej_ld ls a fun v => uI [v] fun x _ => K (pc + 3) (ej_s1 ls a (.int (x + cc))) st M) = some r := h
  replace h := ld_some h
  obtain ⟨v, hv, h⟩ := h
  replace h := uI_some h
  obtain ⟨x, r1, hx, h⟩ := h
  obtain ⟨rfl, -⟩ := List.cons.inj hx
  have e1 := Nat.eq_of_beq_eq_true c1
  subst e1
  exact sd_iinc C hd hv (by rw [c2]) (hK _ _ _ _ h)
set_option maxHeartbeats 1000000 in
theorem so_19 (C : ej_Cx p s m args meth c D cA a0 bs vZ L xs me)  (hd : decode (ej_b me) pc = .ok (.iadd, len)) (hm : ej_mt me pc len (.iadd) i = true) (h : ej_stp ej_sw cl i pc len ls st M K = some r) (hK : ∀ pc ls st M, K pc ls st M = some r → ej_G p l e R s m args below meth c Q D cA a0 bs vZ L xs me z0 s0 pc ls st M) (hmo : ∀ pc ls st M, K pc ls st M = some r → mZ M ≤ mZ r.2 ∧ mS M ≤ mS r.2) (hRc : mZ r.2 - z0 ≤ R.cells ∧ mS r.2 - s0 ≤ R.slots) (hR : d0 + 1 ≤ R.frames ∧ 38 * (d0 + 1) ≤ R.locals) (hcl : ∀ m av M1 v M2, m < 221 → cl m av M1 = some (v, M2) → ej_Met l D cA a0 bs vZ L xs d0 m av M1 v M2 ∧ mZ M1 ≤ mZ M2 ∧ mS M1 ≤ mS M2) (hI : ∀ {pc a : Nat} {ls : ej_L} {v : Int32} {M : ej_Mem}, decode (ej_b me) pc = .ok (.ireturn, 1) → ej_rk (ej_rt me) a = true → ej_nar a v → some (some (.int v), M) = some r → ej_G p l e R s m args below meth c Q D cA a0 bs vZ L xs me z0 s0 pc ls [.int v] M) (hJ : ∀ {pc : Nat} {ls : ej_L} {v : Int64} {M : ej_Mem}, decode (ej_b me) pc = .ok (.lreturn, 1) → ej_rt me = some .long → some (some (.long v), M) = some r → ej_G p l e R s m args below meth c Q D cA a0 bs vZ L xs me z0 s0 pc ls [.long v] M) (hA : ∀ {pc : Nat} {ls : ej_L} {q : Option Nat} {M : ej_Mem}, decode (ej_b me) pc = .ok (.areturn, 1) → ej_rr (ej_rt me) = true → some (some (va_rf q), M) = some r → ej_G p l e R s m args below meth c Q D cA a0 bs vZ L xs me z0 s0 pc ls [va_rf q] M) (hV : ∀ {pc : Nat} {ls : ej_L} {M : ej_Mem}, decode (ej_b me) pc = .ok (.return_, 1) → ej_rt me = none → some (none, M) = some r → ej_G p l e R s m args below meth c Q D cA a0 bs vZ L xs me z0 s0 pc ls [] M) : ej_G p l e R s m args below meth c Q D cA a0 bs vZ L xs me z0 s0 pc ls st M := by
  obtain ⟨op, a, b, d, cc, ee⟩ := i
  simp only [ej_mt, Bool.and_eq_true, Bool.or_eq_true, decide_eq_true_eq] at hm
  obtain ⟨eop, eln, c1⟩ := hm
  have eop := Nat.eq_of_beq_eq_true eop
  subst eop
  have eln := Nat.eq_of_beq_eq_true eln
  subst eln
  replace h : (uI st fun y r => uI r fun x r => K (pc + 1) ls (.int (ej_bin a x y) :: r) M) = some r := h
  have e1 := Nat.eq_of_beq_eq_true c1
  subst e1
  replace h := uI_some h
  obtain ⟨y, r1, rfl, h⟩ := h
  replace h := uI_some h
  obtain ⟨x, r2, rfl, h⟩ := h
  exact sd_iadd C hd (hK _ _ _ _ h)
set_option maxHeartbeats 1000000 in
theorem so_20 (C : ej_Cx p s m args meth c D cA a0 bs vZ L xs me)  (hd : decode (ej_b me) pc = .ok (.isub, len)) (hm : ej_mt me pc len (.isub) i = true) (h : ej_stp ej_sw cl i pc len ls st M K = some r) (hK : ∀ pc ls st M, K pc ls st M = some r → ej_G p l e R s m args below meth c Q D cA a0 bs vZ L xs me z0 s0 pc ls st M) (hmo : ∀ pc ls st M, K pc ls st M = some r → mZ M ≤ mZ r.2 ∧ mS M ≤ mS r.2) (hRc : mZ r.2 - z0 ≤ R.cells ∧ mS r.2 - s0 ≤ R.slots) (hR : d0 + 1 ≤ R.frames ∧ 38 * (d0 + 1) ≤ R.locals) (hcl : ∀ m av M1 v M2, m < 221 → cl m av M1 = some (v, M2) → ej_Met l D cA a0 bs vZ L xs d0 m av M1 v M2 ∧ mZ M1 ≤ mZ M2 ∧ mS M1 ≤ mS M2) (hI : ∀ {pc a : Nat} {ls : ej_L} {v : Int32} {M : ej_Mem}, decode (ej_b me) pc = .ok (.ireturn, 1) → ej_rk (ej_rt me) a = true → ej_nar a v → some (some (.int v), M) = some r → ej_G p l e R s m args below meth c Q D cA a0 bs vZ L xs me z0 s0 pc ls [.int v] M) (hJ : ∀ {pc : Nat} {ls : ej_L} {v : Int64} {M : ej_Mem}, decode (ej_b me) pc = .ok (.lreturn, 1) → ej_rt me = some .long → some (some (.long v), M) = some r → ej_G p l e R s m args below meth c Q D cA a0 bs vZ L xs me z0 s0 pc ls [.long v] M) (hA : ∀ {pc : Nat} {ls : ej_L} {q : Option Nat} {M : ej_Mem}, decode (ej_b me) pc = .ok (.areturn, 1) → ej_rr (ej_rt me) = true → some (some (va_rf q), M) = some r → ej_G p l e R s m args below meth c Q D cA a0 bs vZ L xs me z0 s0 pc ls [va_rf q] M) (hV : ∀ {pc : Nat} {ls : ej_L} {M : ej_Mem}, decode (ej_b me) pc = .ok (.return_, 1) → ej_rt me = none → some (none, M) = some r → ej_G p l e R s m args below meth c Q D cA a0 bs vZ L xs me z0 s0 pc ls [] M) : ej_G p l e R s m args below meth c Q D cA a0 bs vZ L xs me z0 s0 pc ls st M := by
  obtain ⟨op, a, b, d, cc, ee⟩ := i
  simp only [ej_mt, Bool.and_eq_true, Bool.or_eq_true, decide_eq_true_eq] at hm
  obtain ⟨eop, eln, c1⟩ := hm
  have eop := Nat.eq_of_beq_eq_true eop
  subst eop
  have eln := Nat.eq_of_beq_eq_true eln
  subst eln
  replace h : (uI st fun y r => uI r fun x r => K (pc + 1) ls (.int (ej_bin a x y) :: r) M) = some r := h
  have e1 := Nat.eq_of_beq_eq_true c1
  subst e1
  replace h := uI_some h
  obtain ⟨y, r1, rfl, h⟩ := h
  replace h := uI_some h
  obtain ⟨x, r2, rfl, h⟩ := h
  exact sd_isub C hd (hK _ _ _ _ h)
set_option maxHeartbeats 1000000 in
theorem so_21 (C : ej_Cx p s m args meth c D cA a0 bs vZ L xs me)  (hd : decode (ej_b me) pc = .ok (.imul, len)) (hm : ej_mt me pc len (.imul) i = true) (h : ej_stp ej_sw cl i pc len ls st M K = some r) (hK : ∀ pc ls st M, K pc ls st M = some r → ej_G p l e R s m args below meth c Q D cA a0 bs vZ L xs me z0 s0 pc ls st M) (hmo : ∀ pc ls st M, K pc ls st M = some r → mZ M ≤ mZ r.2 ∧ mS M ≤ mS r.2) (hRc : mZ r.2 - z0 ≤ R.cells ∧ mS r.2 - s0 ≤ R.slots) (hR : d0 + 1 ≤ R.frames ∧ 38 * (d0 + 1) ≤ R.locals) (hcl : ∀ m av M1 v M2, m < 221 → cl m av M1 = some (v, M2) → ej_Met l D cA a0 bs vZ L xs d0 m av M1 v M2 ∧ mZ M1 ≤ mZ M2 ∧ mS M1 ≤ mS M2) (hI : ∀ {pc a : Nat} {ls : ej_L} {v : Int32} {M : ej_Mem}, decode (ej_b me) pc = .ok (.ireturn, 1) → ej_rk (ej_rt me) a = true → ej_nar a v → some (some (.int v), M) = some r → ej_G p l e R s m args below meth c Q D cA a0 bs vZ L xs me z0 s0 pc ls [.int v] M) (hJ : ∀ {pc : Nat} {ls : ej_L} {v : Int64} {M : ej_Mem}, decode (ej_b me) pc = .ok (.lreturn, 1) → ej_rt me = some .long → some (some (.long v), M) = some r → ej_G p l e R s m args below meth c Q D cA a0 bs vZ L xs me z0 s0 pc ls [.long v] M) (hA : ∀ {pc : Nat} {ls : ej_L} {q : Option Nat} {M : ej_Mem}, decode (ej_b me) pc = .ok (.areturn, 1) → ej_rr (ej_rt me) = true → some (some (va_rf q), M) = some r → ej_G p l e R s m args below meth c Q D cA a0 bs vZ L xs me z0 s0 pc ls [va_rf q] M) (hV : ∀ {pc : Nat} {ls : ej_L} {M : ej_Mem}, decode (ej_b me) pc = .ok (.return_, 1) → ej_rt me = none → some (none, M) = some r → ej_G p l e R s m args below meth c Q D cA a0 bs vZ L xs me z0 s0 pc ls [] M) : ej_G p l e R s m args below meth c Q D cA a0 bs vZ L xs me z0 s0 pc ls st M := by
  obtain ⟨op, a, b, d, cc, ee⟩ := i
  simp only [ej_mt, Bool.and_eq_true, Bool.or_eq_true, decide_eq_true_eq] at hm
  obtain ⟨eop, eln, c1⟩ := hm
  have eop := Nat.eq_of_beq_eq_true eop
  subst eop
  have eln := Nat.eq_of_beq_eq_true eln
  subst eln
  replace h : (uI st fun y r => uI r fun x r => K (pc + 1) ls (.int (ej_bin a x y) :: r) M) = some r := h
  have e1 := Nat.eq_of_beq_eq_true c1
  subst e1
  replace h := uI_some h
  obtain ⟨y, r1, rfl, h⟩ := h
  replace h := uI_some h
  obtain ⟨x, r2, rfl, h⟩ := h
  exact sd_imul C hd (hK _ _ _ _ h)
set_option maxHeartbeats 1000000 in
theorem so_22 (C : ej_Cx p s m args meth c D cA a0 bs vZ L xs me)  (hd : decode (ej_b me) pc = .ok (.iand, len)) (hm : ej_mt me pc len (.iand) i = true) (h : ej_stp ej_sw cl i pc len ls st M K = some r) (hK : ∀ pc ls st M, K pc ls st M = some r → ej_G p l e R s m args below meth c Q D cA a0 bs vZ L xs me z0 s0 pc ls st M) (hmo : ∀ pc ls st M, K pc ls st M = some r → mZ M ≤ mZ r.2 ∧ mS M ≤ mS r.2) (hRc : mZ r.2 - z0 ≤ R.cells ∧ mS r.2 - s0 ≤ R.slots) (hR : d0 + 1 ≤ R.frames ∧ 38 * (d0 + 1) ≤ R.locals) (hcl : ∀ m av M1 v M2, m < 221 → cl m av M1 = some (v, M2) → ej_Met l D cA a0 bs vZ L xs d0 m av M1 v M2 ∧ mZ M1 ≤ mZ M2 ∧ mS M1 ≤ mS M2) (hI : ∀ {pc a : Nat} {ls : ej_L} {v : Int32} {M : ej_Mem}, decode (ej_b me) pc = .ok (.ireturn, 1) → ej_rk (ej_rt me) a = true → ej_nar a v → some (some (.int v), M) = some r → ej_G p l e R s m args below meth c Q D cA a0 bs vZ L xs me z0 s0 pc ls [.int v] M) (hJ : ∀ {pc : Nat} {ls : ej_L} {v : Int64} {M : ej_Mem}, decode (ej_b me) pc = .ok (.lreturn, 1) → ej_rt me = some .long → some (some (.long v), M) = some r → ej_G p l e R s m args below meth c Q D cA a0 bs vZ L xs me z0 s0 pc ls [.long v] M) (hA : ∀ {pc : Nat} {ls : ej_L} {q : Option Nat} {M : ej_Mem}, decode (ej_b me) pc = .ok (.areturn, 1) → ej_rr (ej_rt me) = true → some (some (va_rf q), M) = some r → ej_G p l e R s m args below meth c Q D cA a0 bs vZ L xs me z0 s0 pc ls [va_rf q] M) (hV : ∀ {pc : Nat} {ls : ej_L} {M : ej_Mem}, decode (ej_b me) pc = .ok (.return_, 1) → ej_rt me = none → some (none, M) = some r → ej_G p l e R s m args below meth c Q D cA a0 bs vZ L xs me z0 s0 pc ls [] M) : ej_G p l e R s m args below meth c Q D cA a0 bs vZ L xs me z0 s0 pc ls st M := by
  obtain ⟨op, a, b, d, cc, ee⟩ := i
  simp only [ej_mt, Bool.and_eq_true, Bool.or_eq_true, decide_eq_true_eq] at hm
  obtain ⟨eop, eln, c1⟩ := hm
  have eop := Nat.eq_of_beq_eq_true eop
  subst eop
  have eln := Nat.eq_of_beq_eq_true eln
  subst eln
  replace h : (uI st fun y r => uI r fun x r => K (pc + 1) ls (.int (ej_bin a x y) :: r) M) = some r := h
  have e1 := Nat.eq_of_beq_eq_true c1
  subst e1
  replace h := uI_some h
  obtain ⟨y, r1, rfl, h⟩ := h
  replace h := uI_some h
  obtain ⟨x, r2, rfl, h⟩ := h
  exact sd_iand C hd (hK _ _ _ _ h)
set_option maxHeartbeats 1000000 in
theorem so_23 (C : ej_Cx p s m args meth c D cA a0 bs vZ L xs me)  (hd : decode (ej_b me) pc = .ok (.ior, len)) (hm : ej_mt me pc len (.ior) i = true) (h : ej_stp ej_sw cl i pc len ls st M K = some r) (hK : ∀ pc ls st M, K pc ls st M = some r → ej_G p l e R s m args below meth c Q D cA a0 bs vZ L xs me z0 s0 pc ls st M) (hmo : ∀ pc ls st M, K pc ls st M = some r → mZ M ≤ mZ r.2 ∧ mS M ≤ mS r.2) (hRc : mZ r.2 - z0 ≤ R.cells ∧ mS r.2 - s0 ≤ R.slots) (hR : d0 + 1 ≤ R.frames ∧ 38 * (d0 + 1) ≤ R.locals) (hcl : ∀ m av M1 v M2, m < 221 → cl m av M1 = some (v, M2) → ej_Met l D cA a0 bs vZ L xs d0 m av M1 v M2 ∧ mZ M1 ≤ mZ M2 ∧ mS M1 ≤ mS M2) (hI : ∀ {pc a : Nat} {ls : ej_L} {v : Int32} {M : ej_Mem}, decode (ej_b me) pc = .ok (.ireturn, 1) → ej_rk (ej_rt me) a = true → ej_nar a v → some (some (.int v), M) = some r → ej_G p l e R s m args below meth c Q D cA a0 bs vZ L xs me z0 s0 pc ls [.int v] M) (hJ : ∀ {pc : Nat} {ls : ej_L} {v : Int64} {M : ej_Mem}, decode (ej_b me) pc = .ok (.lreturn, 1) → ej_rt me = some .long → some (some (.long v), M) = some r → ej_G p l e R s m args below meth c Q D cA a0 bs vZ L xs me z0 s0 pc ls [.long v] M) (hA : ∀ {pc : Nat} {ls : ej_L} {q : Option Nat} {M : ej_Mem}, decode (ej_b me) pc = .ok (.areturn, 1) → ej_rr (ej_rt me) = true → some (some (va_rf q), M) = some r → ej_G p l e R s m args below meth c Q D cA a0 bs vZ L xs me z0 s0 pc ls [va_rf q] M) (hV : ∀ {pc : Nat} {ls : ej_L} {M : ej_Mem}, decode (ej_b me) pc = .ok (.return_, 1) → ej_rt me = none → some (none, M) = some r → ej_G p l e R s m args below meth c Q D cA a0 bs vZ L xs me z0 s0 pc ls [] M) : ej_G p l e R s m args below meth c Q D cA a0 bs vZ L xs me z0 s0 pc ls st M := by
  obtain ⟨op, a, b, d, cc, ee⟩ := i
  simp only [ej_mt, Bool.and_eq_true, Bool.or_eq_true, decide_eq_true_eq] at hm
  obtain ⟨eop, eln, c1⟩ := hm
  have eop := Nat.eq_of_beq_eq_true eop
  subst eop
  have eln := Nat.eq_of_beq_eq_true eln
  subst eln
  replace h : (uI st fun y r => uI r fun x r => K (pc + 1) ls (.int (ej_bin a x y) :: r) M) = some r := h
  have e1 := Nat.eq_of_beq_eq_true c1
  subst e1
  replace h := uI_some h
  obtain ⟨y, r1, rfl, h⟩ := h
  replace h := uI_some h
  obtain ⟨x, r2, rfl, h⟩ := h
  exact sd_ior C hd (hK _ _ _ _ h)
set_option maxHeartbeats 1000000 in
theorem so_24 (C : ej_Cx p s m args meth c D cA a0 bs vZ L xs me)  (hd : decode (ej_b me) pc = .ok (.ixor, len)) (hm : ej_mt me pc len (.ixor) i = true) (h : ej_stp ej_sw cl i pc len ls st M K = some r) (hK : ∀ pc ls st M, K pc ls st M = some r → ej_G p l e R s m args below meth c Q D cA a0 bs vZ L xs me z0 s0 pc ls st M) (hmo : ∀ pc ls st M, K pc ls st M = some r → mZ M ≤ mZ r.2 ∧ mS M ≤ mS r.2) (hRc : mZ r.2 - z0 ≤ R.cells ∧ mS r.2 - s0 ≤ R.slots) (hR : d0 + 1 ≤ R.frames ∧ 38 * (d0 + 1) ≤ R.locals) (hcl : ∀ m av M1 v M2, m < 221 → cl m av M1 = some (v, M2) → ej_Met l D cA a0 bs vZ L xs d0 m av M1 v M2 ∧ mZ M1 ≤ mZ M2 ∧ mS M1 ≤ mS M2) (hI : ∀ {pc a : Nat} {ls : ej_L} {v : Int32} {M : ej_Mem}, decode (ej_b me) pc = .ok (.ireturn, 1) → ej_rk (ej_rt me) a = true → ej_nar a v → some (some (.int v), M) = some r → ej_G p l e R s m args below meth c Q D cA a0 bs vZ L xs me z0 s0 pc ls [.int v] M) (hJ : ∀ {pc : Nat} {ls : ej_L} {v : Int64} {M : ej_Mem}, decode (ej_b me) pc = .ok (.lreturn, 1) → ej_rt me = some .long → some (some (.long v), M) = some r → ej_G p l e R s m args below meth c Q D cA a0 bs vZ L xs me z0 s0 pc ls [.long v] M) (hA : ∀ {pc : Nat} {ls : ej_L} {q : Option Nat} {M : ej_Mem}, decode (ej_b me) pc = .ok (.areturn, 1) → ej_rr (ej_rt me) = true → some (some (va_rf q), M) = some r → ej_G p l e R s m args below meth c Q D cA a0 bs vZ L xs me z0 s0 pc ls [va_rf q] M) (hV : ∀ {pc : Nat} {ls : ej_L} {M : ej_Mem}, decode (ej_b me) pc = .ok (.return_, 1) → ej_rt me = none → some (none, M) = some r → ej_G p l e R s m args below meth c Q D cA a0 bs vZ L xs me z0 s0 pc ls [] M) : ej_G p l e R s m args below meth c Q D cA a0 bs vZ L xs me z0 s0 pc ls st M := by
  obtain ⟨op, a, b, d, cc, ee⟩ := i
  simp only [ej_mt, Bool.and_eq_true, Bool.or_eq_true, decide_eq_true_eq] at hm
  obtain ⟨eop, eln, c1⟩ := hm
  have eop := Nat.eq_of_beq_eq_true eop
  subst eop
  have eln := Nat.eq_of_beq_eq_true eln
  subst eln
  replace h : (uI st fun y r => uI r fun x r => K (pc + 1) ls (.int (ej_bin a x y) :: r) M) = some r := h
  have e1 := Nat.eq_of_beq_eq_true c1
  subst e1
  replace h := uI_some h
  obtain ⟨y, r1, rfl, h⟩ := h
  replace h := uI_some h
  obtain ⟨x, r2, rfl, h⟩ := h
  exact sd_ixor C hd (hK _ _ _ _ h)
set_option maxHeartbeats 1000000 in
theorem so_25 (C : ej_Cx p s m args meth c D cA a0 bs vZ L xs me)  (hd : decode (ej_b me) pc = .ok (.ishl, len)) (hm : ej_mt me pc len (.ishl) i = true) (h : ej_stp ej_sw cl i pc len ls st M K = some r) (hK : ∀ pc ls st M, K pc ls st M = some r → ej_G p l e R s m args below meth c Q D cA a0 bs vZ L xs me z0 s0 pc ls st M) (hmo : ∀ pc ls st M, K pc ls st M = some r → mZ M ≤ mZ r.2 ∧ mS M ≤ mS r.2) (hRc : mZ r.2 - z0 ≤ R.cells ∧ mS r.2 - s0 ≤ R.slots) (hR : d0 + 1 ≤ R.frames ∧ 38 * (d0 + 1) ≤ R.locals) (hcl : ∀ m av M1 v M2, m < 221 → cl m av M1 = some (v, M2) → ej_Met l D cA a0 bs vZ L xs d0 m av M1 v M2 ∧ mZ M1 ≤ mZ M2 ∧ mS M1 ≤ mS M2) (hI : ∀ {pc a : Nat} {ls : ej_L} {v : Int32} {M : ej_Mem}, decode (ej_b me) pc = .ok (.ireturn, 1) → ej_rk (ej_rt me) a = true → ej_nar a v → some (some (.int v), M) = some r → ej_G p l e R s m args below meth c Q D cA a0 bs vZ L xs me z0 s0 pc ls [.int v] M) (hJ : ∀ {pc : Nat} {ls : ej_L} {v : Int64} {M : ej_Mem}, decode (ej_b me) pc = .ok (.lreturn, 1) → ej_rt me = some .long → some (some (.long v), M) = some r → ej_G p l e R s m args below meth c Q D cA a0 bs vZ L xs me z0 s0 pc ls [.long v] M) (hA : ∀ {pc : Nat} {ls : ej_L} {q : Option Nat} {M : ej_Mem}, decode (ej_b me) pc = .ok (.areturn, 1) → ej_rr (ej_rt me) = true → some (some (va_rf q), M) = some r → ej_G p l e R s m args below meth c Q D cA a0 bs vZ L xs me z0 s0 pc ls [va_rf q] M) (hV : ∀ {pc : Nat} {ls : ej_L} {M : ej_Mem}, decode (ej_b me) pc = .ok (.return_, 1) → ej_rt me = none → some (none, M) = some r → ej_G p l e R s m args below meth c Q D cA a0 bs vZ L xs me z0 s0 pc ls [] M) : ej_G p l e R s m args below meth c Q D cA a0 bs vZ L xs me z0 s0 pc ls st M := by
  obtain ⟨op, a, b, d, cc, ee⟩ := i
  simp only [ej_mt, Bool.and_eq_true, Bool.or_eq_true, decide_eq_true_eq] at hm
  obtain ⟨eop, eln, c1⟩ := hm
  have eop := Nat.eq_of_beq_eq_true eop
  subst eop
  have eln := Nat.eq_of_beq_eq_true eln
  subst eln
  replace h : (uI st fun y r => uI r fun x r => K (pc + 1) ls (.int (ej_bin a x y) :: r) M) = some r := h
  have e1 := Nat.eq_of_beq_eq_true c1
  subst e1
  replace h := uI_some h
  obtain ⟨y, r1, rfl, h⟩ := h
  replace h := uI_some h
  obtain ⟨x, r2, rfl, h⟩ := h
  exact sd_ishl C hd (hK _ _ _ _ h)
set_option maxHeartbeats 1000000 in
theorem so_26 (C : ej_Cx p s m args meth c D cA a0 bs vZ L xs me)  (hd : decode (ej_b me) pc = .ok (.ishr, len)) (hm : ej_mt me pc len (.ishr) i = true) (h : ej_stp ej_sw cl i pc len ls st M K = some r) (hK : ∀ pc ls st M, K pc ls st M = some r → ej_G p l e R s m args below meth c Q D cA a0 bs vZ L xs me z0 s0 pc ls st M) (hmo : ∀ pc ls st M, K pc ls st M = some r → mZ M ≤ mZ r.2 ∧ mS M ≤ mS r.2) (hRc : mZ r.2 - z0 ≤ R.cells ∧ mS r.2 - s0 ≤ R.slots) (hR : d0 + 1 ≤ R.frames ∧ 38 * (d0 + 1) ≤ R.locals) (hcl : ∀ m av M1 v M2, m < 221 → cl m av M1 = some (v, M2) → ej_Met l D cA a0 bs vZ L xs d0 m av M1 v M2 ∧ mZ M1 ≤ mZ M2 ∧ mS M1 ≤ mS M2) (hI : ∀ {pc a : Nat} {ls : ej_L} {v : Int32} {M : ej_Mem}, decode (ej_b me) pc = .ok (.ireturn, 1) → ej_rk (ej_rt me) a = true → ej_nar a v → some (some (.int v), M) = some r → ej_G p l e R s m args below meth c Q D cA a0 bs vZ L xs me z0 s0 pc ls [.int v] M) (hJ : ∀ {pc : Nat} {ls : ej_L} {v : Int64} {M : ej_Mem}, decode (ej_b me) pc = .ok (.lreturn, 1) → ej_rt me = some .long → some (some (.long v), M) = some r → ej_G p l e R s m args below meth c Q D cA a0 bs vZ L xs me z0 s0 pc ls [.long v] M) (hA : ∀ {pc : Nat} {ls : ej_L} {q : Option Nat} {M : ej_Mem}, decode (ej_b me) pc = .ok (.areturn, 1) → ej_rr (ej_rt me) = true → some (some (va_rf q), M) = some r → ej_G p l e R s m args below meth c Q D cA a0 bs vZ L xs me z0 s0 pc ls [va_rf q] M) (hV : ∀ {pc : Nat} {ls : ej_L} {M : ej_Mem}, decode (ej_b me) pc = .ok (.return_, 1) → ej_rt me = none → some (none, M) = some r → ej_G p l e R s m args below meth c Q D cA a0 bs vZ L xs me z0 s0 pc ls [] M) : ej_G p l e R s m args below meth c Q D cA a0 bs vZ L xs me z0 s0 pc ls st M := by
  obtain ⟨op, a, b, d, cc, ee⟩ := i
  simp only [ej_mt, Bool.and_eq_true, Bool.or_eq_true, decide_eq_true_eq] at hm
  obtain ⟨eop, eln, c1⟩ := hm
  have eop := Nat.eq_of_beq_eq_true eop
  subst eop
  have eln := Nat.eq_of_beq_eq_true eln
  subst eln
  replace h : (uI st fun y r => uI r fun x r => K (pc + 1) ls (.int (ej_bin a x y) :: r) M) = some r := h
  have e1 := Nat.eq_of_beq_eq_true c1
  subst e1
  replace h := uI_some h
  obtain ⟨y, r1, rfl, h⟩ := h
  replace h := uI_some h
  obtain ⟨x, r2, rfl, h⟩ := h
  exact sd_ishr C hd (hK _ _ _ _ h)
set_option maxHeartbeats 1000000 in
theorem so_27 (C : ej_Cx p s m args meth c D cA a0 bs vZ L xs me)  (hd : decode (ej_b me) pc = .ok (.iushr, len)) (hm : ej_mt me pc len (.iushr) i = true) (h : ej_stp ej_sw cl i pc len ls st M K = some r) (hK : ∀ pc ls st M, K pc ls st M = some r → ej_G p l e R s m args below meth c Q D cA a0 bs vZ L xs me z0 s0 pc ls st M) (hmo : ∀ pc ls st M, K pc ls st M = some r → mZ M ≤ mZ r.2 ∧ mS M ≤ mS r.2) (hRc : mZ r.2 - z0 ≤ R.cells ∧ mS r.2 - s0 ≤ R.slots) (hR : d0 + 1 ≤ R.frames ∧ 38 * (d0 + 1) ≤ R.locals) (hcl : ∀ m av M1 v M2, m < 221 → cl m av M1 = some (v, M2) → ej_Met l D cA a0 bs vZ L xs d0 m av M1 v M2 ∧ mZ M1 ≤ mZ M2 ∧ mS M1 ≤ mS M2) (hI : ∀ {pc a : Nat} {ls : ej_L} {v : Int32} {M : ej_Mem}, decode (ej_b me) pc = .ok (.ireturn, 1) → ej_rk (ej_rt me) a = true → ej_nar a v → some (some (.int v), M) = some r → ej_G p l e R s m args below meth c Q D cA a0 bs vZ L xs me z0 s0 pc ls [.int v] M) (hJ : ∀ {pc : Nat} {ls : ej_L} {v : Int64} {M : ej_Mem}, decode (ej_b me) pc = .ok (.lreturn, 1) → ej_rt me = some .long → some (some (.long v), M) = some r → ej_G p l e R s m args below meth c Q D cA a0 bs vZ L xs me z0 s0 pc ls [.long v] M) (hA : ∀ {pc : Nat} {ls : ej_L} {q : Option Nat} {M : ej_Mem}, decode (ej_b me) pc = .ok (.areturn, 1) → ej_rr (ej_rt me) = true → some (some (va_rf q), M) = some r → ej_G p l e R s m args below meth c Q D cA a0 bs vZ L xs me z0 s0 pc ls [va_rf q] M) (hV : ∀ {pc : Nat} {ls : ej_L} {M : ej_Mem}, decode (ej_b me) pc = .ok (.return_, 1) → ej_rt me = none → some (none, M) = some r → ej_G p l e R s m args below meth c Q D cA a0 bs vZ L xs me z0 s0 pc ls [] M) : ej_G p l e R s m args below meth c Q D cA a0 bs vZ L xs me z0 s0 pc ls st M := by
  obtain ⟨op, a, b, d, cc, ee⟩ := i
  simp only [ej_mt, Bool.and_eq_true, Bool.or_eq_true, decide_eq_true_eq] at hm
  obtain ⟨eop, eln, c1⟩ := hm
  have eop := Nat.eq_of_beq_eq_true eop
  subst eop
  have eln := Nat.eq_of_beq_eq_true eln
  subst eln
  replace h : (uI st fun y r => uI r fun x r => K (pc + 1) ls (.int (ej_bin a x y) :: r) M) = some r := h
  have e1 := Nat.eq_of_beq_eq_true c1
  subst e1
  replace h := uI_some h
  obtain ⟨y, r1, rfl, h⟩ := h
  replace h := uI_some h
  obtain ⟨x, r2, rfl, h⟩ := h
  exact sd_iushr C hd (hK _ _ _ _ h)
set_option maxHeartbeats 1000000 in
theorem so_28 (C : ej_Cx p s m args meth c D cA a0 bs vZ L xs me)  (hd : decode (ej_b me) pc = .ok (.idiv, len)) (hm : ej_mt me pc len (.idiv) i = true) (h : ej_stp ej_sw cl i pc len ls st M K = some r) (hK : ∀ pc ls st M, K pc ls st M = some r → ej_G p l e R s m args below meth c Q D cA a0 bs vZ L xs me z0 s0 pc ls st M) (hmo : ∀ pc ls st M, K pc ls st M = some r → mZ M ≤ mZ r.2 ∧ mS M ≤ mS r.2) (hRc : mZ r.2 - z0 ≤ R.cells ∧ mS r.2 - s0 ≤ R.slots) (hR : d0 + 1 ≤ R.frames ∧ 38 * (d0 + 1) ≤ R.locals) (hcl : ∀ m av M1 v M2, m < 221 → cl m av M1 = some (v, M2) → ej_Met l D cA a0 bs vZ L xs d0 m av M1 v M2 ∧ mZ M1 ≤ mZ M2 ∧ mS M1 ≤ mS M2) (hI : ∀ {pc a : Nat} {ls : ej_L} {v : Int32} {M : ej_Mem}, decode (ej_b me) pc = .ok (.ireturn, 1) → ej_rk (ej_rt me) a = true → ej_nar a v → some (some (.int v), M) = some r → ej_G p l e R s m args below meth c Q D cA a0 bs vZ L xs me z0 s0 pc ls [.int v] M) (hJ : ∀ {pc : Nat} {ls : ej_L} {v : Int64} {M : ej_Mem}, decode (ej_b me) pc = .ok (.lreturn, 1) → ej_rt me = some .long → some (some (.long v), M) = some r → ej_G p l e R s m args below meth c Q D cA a0 bs vZ L xs me z0 s0 pc ls [.long v] M) (hA : ∀ {pc : Nat} {ls : ej_L} {q : Option Nat} {M : ej_Mem}, decode (ej_b me) pc = .ok (.areturn, 1) → ej_rr (ej_rt me) = true → some (some (va_rf q), M) = some r → ej_G p l e R s m args below meth c Q D cA a0 bs vZ L xs me z0 s0 pc ls [va_rf q] M) (hV : ∀ {pc : Nat} {ls : ej_L} {M : ej_Mem}, decode (ej_b me) pc = .ok (.return_, 1) → ej_rt me = none → some (none, M) = some r → ej_G p l e R s m args below meth c Q D cA a0 bs vZ L xs me z0 s0 pc ls [] M) : ej_G p l e R s m args below meth c Q D cA a0 bs vZ L xs me z0 s0 pc ls st M := by
  obtain ⟨op, a, b, d, cc, ee⟩ := i
  simp only [ej_mt, Bool.and_eq_true, Bool.or_eq_true, decide_eq_true_eq] at hm
  obtain ⟨eop, eln, c1⟩ := hm
  have eop := Nat.eq_of_beq_eq_true eop
  subst eop
  have eln := Nat.eq_of_beq_eq_true eln
  subst eln
  replace h : (uI st fun y r => uI r fun x r => ckk (¬ y = 0) (K (pc + 1) ls (.int (ej_dv a x y) :: r) M)) = some r := h
  have e1 := Nat.eq_of_beq_eq_true c1
  subst e1
  replace h := uI_some h
  obtain ⟨y, r1, rfl, h⟩ := h
  replace h := uI_some h
  obtain ⟨x, r2, rfl, h⟩ := h
  replace h := ckk_some h
  obtain ⟨k1, h⟩ := h
  exact sd_idiv C hd k1 (hK _ _ _ _ h)
set_option maxHeartbeats 1000000 in
theorem so_29 (C : ej_Cx p s m args meth c D cA a0 bs vZ L xs me)  (hd : decode (ej_b me) pc = .ok (.irem, len)) (hm : ej_mt me pc len (.irem) i = true) (h : ej_stp ej_sw cl i pc len ls st M K = some r) (hK : ∀ pc ls st M, K pc ls st M = some r → ej_G p l e R s m args below meth c Q D cA a0 bs vZ L xs me z0 s0 pc ls st M) (hmo : ∀ pc ls st M, K pc ls st M = some r → mZ M ≤ mZ r.2 ∧ mS M ≤ mS r.2) (hRc : mZ r.2 - z0 ≤ R.cells ∧ mS r.2 - s0 ≤ R.slots) (hR : d0 + 1 ≤ R.frames ∧ 38 * (d0 + 1) ≤ R.locals) (hcl : ∀ m av M1 v M2, m < 221 → cl m av M1 = some (v, M2) → ej_Met l D cA a0 bs vZ L xs d0 m av M1 v M2 ∧ mZ M1 ≤ mZ M2 ∧ mS M1 ≤ mS M2) (hI : ∀ {pc a : Nat} {ls : ej_L} {v : Int32} {M : ej_Mem}, decode (ej_b me) pc = .ok (.ireturn, 1) → ej_rk (ej_rt me) a = true → ej_nar a v → some (some (.int v), M) = some r → ej_G p l e R s m args below meth c Q D cA a0 bs vZ L xs me z0 s0 pc ls [.int v] M) (hJ : ∀ {pc : Nat} {ls : ej_L} {v : Int64} {M : ej_Mem}, decode (ej_b me) pc = .ok (.lreturn, 1) → ej_rt me = some .long → some (some (.long v), M) = some r → ej_G p l e R s m args below meth c Q D cA a0 bs vZ L xs me z0 s0 pc ls [.long v] M) (hA : ∀ {pc : Nat} {ls : ej_L} {q : Option Nat} {M : ej_Mem}, decode (ej_b me) pc = .ok (.areturn, 1) → ej_rr (ej_rt me) = true → some (some (va_rf q), M) = some r → ej_G p l e R s m args below meth c Q D cA a0 bs vZ L xs me z0 s0 pc ls [va_rf q] M) (hV : ∀ {pc : Nat} {ls : ej_L} {M : ej_Mem}, decode (ej_b me) pc = .ok (.return_, 1) → ej_rt me = none → some (none, M) = some r → ej_G p l e R s m args below meth c Q D cA a0 bs vZ L xs me z0 s0 pc ls [] M) : ej_G p l e R s m args below meth c Q D cA a0 bs vZ L xs me z0 s0 pc ls st M := by
  obtain ⟨op, a, b, d, cc, ee⟩ := i
  simp only [ej_mt, Bool.and_eq_true, Bool.or_eq_true, decide_eq_true_eq] at hm
  obtain ⟨eop, eln, c1⟩ := hm
  have eop := Nat.eq_of_beq_eq_true eop
  subst eop
  have eln := Nat.eq_of_beq_eq_true eln
  subst eln
  replace h : (uI st fun y r => uI r fun x r => ckk (¬ y = 0) (K (pc + 1) ls (.int (ej_dv a x y) :: r) M)) = some r := h
  have e1 := Nat.eq_of_beq_eq_true c1
  subst e1
  replace h := uI_some h
  obtain ⟨y, r1, rfl, h⟩ := h
  replace h := uI_some h
  obtain ⟨x, r2, rfl, h⟩ := h
  replace h := ckk_some h
  obtain ⟨k1, h⟩ := h
  exact sd_irem C hd k1 (hK _ _ _ _ h)
set_option maxHeartbeats 1000000 in
theorem so_30 (C : ej_Cx p s m args meth c D cA a0 bs vZ L xs me)  (hd : decode (ej_b me) pc = .ok (.land, len)) (hm : ej_mt me pc len (.land) i = true) (h : ej_stp ej_sw cl i pc len ls st M K = some r) (hK : ∀ pc ls st M, K pc ls st M = some r → ej_G p l e R s m args below meth c Q D cA a0 bs vZ L xs me z0 s0 pc ls st M) (hmo : ∀ pc ls st M, K pc ls st M = some r → mZ M ≤ mZ r.2 ∧ mS M ≤ mS r.2) (hRc : mZ r.2 - z0 ≤ R.cells ∧ mS r.2 - s0 ≤ R.slots) (hR : d0 + 1 ≤ R.frames ∧ 38 * (d0 + 1) ≤ R.locals) (hcl : ∀ m av M1 v M2, m < 221 → cl m av M1 = some (v, M2) → ej_Met l D cA a0 bs vZ L xs d0 m av M1 v M2 ∧ mZ M1 ≤ mZ M2 ∧ mS M1 ≤ mS M2) (hI : ∀ {pc a : Nat} {ls : ej_L} {v : Int32} {M : ej_Mem}, decode (ej_b me) pc = .ok (.ireturn, 1) → ej_rk (ej_rt me) a = true → ej_nar a v → some (some (.int v), M) = some r → ej_G p l e R s m args below meth c Q D cA a0 bs vZ L xs me z0 s0 pc ls [.int v] M) (hJ : ∀ {pc : Nat} {ls : ej_L} {v : Int64} {M : ej_Mem}, decode (ej_b me) pc = .ok (.lreturn, 1) → ej_rt me = some .long → some (some (.long v), M) = some r → ej_G p l e R s m args below meth c Q D cA a0 bs vZ L xs me z0 s0 pc ls [.long v] M) (hA : ∀ {pc : Nat} {ls : ej_L} {q : Option Nat} {M : ej_Mem}, decode (ej_b me) pc = .ok (.areturn, 1) → ej_rr (ej_rt me) = true → some (some (va_rf q), M) = some r → ej_G p l e R s m args below meth c Q D cA a0 bs vZ L xs me z0 s0 pc ls [va_rf q] M) (hV : ∀ {pc : Nat} {ls : ej_L} {M : ej_Mem}, decode (ej_b me) pc = .ok (.return_, 1) → ej_rt me = none → some (none, M) = some r → ej_G p l e R s m args below meth c Q D cA a0 bs vZ L xs me z0 s0 pc ls [] M) : ej_G p l e R s m args below meth c Q D cA a0 bs vZ L xs me z0 s0 pc ls st M := by
  obtain ⟨op, a, b, d, cc, ee⟩ := i
  simp only [ej_mt, Bool.and_eq_true, Bool.or_eq_true, decide_eq_true_eq] at hm
  obtain ⟨eop, eln, c1⟩ := hm
  have eop := Nat.eq_of_beq_eq_true eop
  subst eop
  have eln := Nat.eq_of_beq_eq_true eln
  subst eln
  replace h : (uL st fun y r => uL r fun x r => K (pc + 1) ls (.long (ej_lb a x y) :: r) M) = some r := h
  have e1 := Nat.eq_of_beq_eq_true c1
  subst e1
  replace h := uL_some h
  obtain ⟨y, r1, rfl, h⟩ := h
  replace h := uL_some h
  obtain ⟨x, r2, rfl, h⟩ := h
  exact sd_land C hd (hK _ _ _ _ h)
set_option maxHeartbeats 1000000 in
theorem so_31 (C : ej_Cx p s m args meth c D cA a0 bs vZ L xs me)  (hd : decode (ej_b me) pc = .ok (.lor, len)) (hm : ej_mt me pc len (.lor) i = true) (h : ej_stp ej_sw cl i pc len ls st M K = some r) (hK : ∀ pc ls st M, K pc ls st M = some r → ej_G p l e R s m args below meth c Q D cA a0 bs vZ L xs me z0 s0 pc ls st M) (hmo : ∀ pc ls st M, K pc ls st M = some r → mZ M ≤ mZ r.2 ∧ mS M ≤ mS r.2) (hRc : mZ r.2 - z0 ≤ R.cells ∧ mS r.2 - s0 ≤ R.slots) (hR : d0 + 1 ≤ R.frames ∧ 38 * (d0 + 1) ≤ R.locals) (hcl : ∀ m av M1 v M2, m < 221 → cl m av M1 = some (v, M2) → ej_Met l D cA a0 bs vZ L xs d0 m av M1 v M2 ∧ mZ M1 ≤ mZ M2 ∧ mS M1 ≤ mS M2) (hI : ∀ {pc a : Nat} {ls : ej_L} {v : Int32} {M : ej_Mem}, decode (ej_b me) pc = .ok (.ireturn, 1) → ej_rk (ej_rt me) a = true → ej_nar a v → some (some (.int v), M) = some r → ej_G p l e R s m args below meth c Q D cA a0 bs vZ L xs me z0 s0 pc ls [.int v] M) (hJ : ∀ {pc : Nat} {ls : ej_L} {v : Int64} {M : ej_Mem}, decode (ej_b me) pc = .ok (.lreturn, 1) → ej_rt me = some .long → some (some (.long v), M) = some r → ej_G p l e R s m args below meth c Q D cA a0 bs vZ L xs me z0 s0 pc ls [.long v] M) (hA : ∀ {pc : Nat} {ls : ej_L} {q : Option Nat} {M : ej_Mem}, decode (ej_b me) pc = .ok (.areturn, 1) → ej_rr (ej_rt me) = true → some (some (va_rf q), M) = some r → ej_G p l e R s m args below meth c Q D cA a0 bs vZ L xs me z0 s0 pc ls [va_rf q] M) (hV : ∀ {pc : Nat} {ls : ej_L} {M : ej_Mem}, decode (ej_b me) pc = .ok (.return_, 1) → ej_rt me = none → some (none, M) = some r → ej_G p l e R s m args below meth c Q D cA a0 bs vZ L xs me z0 s0 pc ls [] M) : ej_G p l e R s m args below meth c Q D cA a0 bs vZ L xs me z0 s0 pc ls st M := by
  obtain ⟨op, a, b, d, cc, ee⟩ := i
  simp only [ej_mt, Bool.and_eq_true, Bool.or_eq_true, decide_eq_true_eq] at hm
  obtain ⟨eop, eln, c1⟩ := hm
  have eop := Nat.eq_of_beq_eq_true eop
  subst eop
  have eln := Nat.eq_of_beq_eq_true eln
  subst eln
  replace h : (uL st fun y r => uL r fun x r => K (pc + 1) ls (.long (ej_lb a x y) :: r) M) = some r := h
  have e1 := Nat.eq_of_beq_eq_true c1
  subst e1
  replace h := uL_some h
  obtain ⟨y, r1, rfl, h⟩ := h
  replace h := uL_some h
  obtain ⟨x, r2, rfl, h⟩ := h
  exact sd_lor C hd (hK _ _ _ _ h)
set_option maxHeartbeats 1000000 in
theorem so_32 (C : ej_Cx p s m args meth c D cA a0 bs vZ L xs me)  (hd : decode (ej_b me) pc = .ok (.lxor, len)) (hm : ej_mt me pc len (.lxor) i = true) (h : ej_stp ej_sw cl i pc len ls st M K = some r) (hK : ∀ pc ls st M, K pc ls st M = some r → ej_G p l e R s m args below meth c Q D cA a0 bs vZ L xs me z0 s0 pc ls st M) (hmo : ∀ pc ls st M, K pc ls st M = some r → mZ M ≤ mZ r.2 ∧ mS M ≤ mS r.2) (hRc : mZ r.2 - z0 ≤ R.cells ∧ mS r.2 - s0 ≤ R.slots) (hR : d0 + 1 ≤ R.frames ∧ 38 * (d0 + 1) ≤ R.locals) (hcl : ∀ m av M1 v M2, m < 221 → cl m av M1 = some (v, M2) → ej_Met l D cA a0 bs vZ L xs d0 m av M1 v M2 ∧ mZ M1 ≤ mZ M2 ∧ mS M1 ≤ mS M2) (hI : ∀ {pc a : Nat} {ls : ej_L} {v : Int32} {M : ej_Mem}, decode (ej_b me) pc = .ok (.ireturn, 1) → ej_rk (ej_rt me) a = true → ej_nar a v → some (some (.int v), M) = some r → ej_G p l e R s m args below meth c Q D cA a0 bs vZ L xs me z0 s0 pc ls [.int v] M) (hJ : ∀ {pc : Nat} {ls : ej_L} {v : Int64} {M : ej_Mem}, decode (ej_b me) pc = .ok (.lreturn, 1) → ej_rt me = some .long → some (some (.long v), M) = some r → ej_G p l e R s m args below meth c Q D cA a0 bs vZ L xs me z0 s0 pc ls [.long v] M) (hA : ∀ {pc : Nat} {ls : ej_L} {q : Option Nat} {M : ej_Mem}, decode (ej_b me) pc = .ok (.areturn, 1) → ej_rr (ej_rt me) = true → some (some (va_rf q), M) = some r → ej_G p l e R s m args below meth c Q D cA a0 bs vZ L xs me z0 s0 pc ls [va_rf q] M) (hV : ∀ {pc : Nat} {ls : ej_L} {M : ej_Mem}, decode (ej_b me) pc = .ok (.return_, 1) → ej_rt me = none → some (none, M) = some r → ej_G p l e R s m args below meth c Q D cA a0 bs vZ L xs me z0 s0 pc ls [] M) : ej_G p l e R s m args below meth c Q D cA a0 bs vZ L xs me z0 s0 pc ls st M := by
  obtain ⟨op, a, b, d, cc, ee⟩ := i
  simp only [ej_mt, Bool.and_eq_true, Bool.or_eq_true, decide_eq_true_eq] at hm
  obtain ⟨eop, eln, c1⟩ := hm
  have eop := Nat.eq_of_beq_eq_true eop
  subst eop
  have eln := Nat.eq_of_beq_eq_true eln
  subst eln
  replace h : (uL st fun y r => uL r fun x r => K (pc + 1) ls (.long (ej_lb a x y) :: r) M) = some r := h
  have e1 := Nat.eq_of_beq_eq_true c1
  subst e1
  replace h := uL_some h
  obtain ⟨y, r1, rfl, h⟩ := h
  replace h := uL_some h
  obtain ⟨x, r2, rfl, h⟩ := h
  exact sd_lxor C hd (hK _ _ _ _ h)
set_option maxHeartbeats 1000000 in
theorem so_33 (C : ej_Cx p s m args meth c D cA a0 bs vZ L xs me)  (hd : decode (ej_b me) pc = .ok (.lsub, len)) (hm : ej_mt me pc len (.lsub) i = true) (h : ej_stp ej_sw cl i pc len ls st M K = some r) (hK : ∀ pc ls st M, K pc ls st M = some r → ej_G p l e R s m args below meth c Q D cA a0 bs vZ L xs me z0 s0 pc ls st M) (hmo : ∀ pc ls st M, K pc ls st M = some r → mZ M ≤ mZ r.2 ∧ mS M ≤ mS r.2) (hRc : mZ r.2 - z0 ≤ R.cells ∧ mS r.2 - s0 ≤ R.slots) (hR : d0 + 1 ≤ R.frames ∧ 38 * (d0 + 1) ≤ R.locals) (hcl : ∀ m av M1 v M2, m < 221 → cl m av M1 = some (v, M2) → ej_Met l D cA a0 bs vZ L xs d0 m av M1 v M2 ∧ mZ M1 ≤ mZ M2 ∧ mS M1 ≤ mS M2) (hI : ∀ {pc a : Nat} {ls : ej_L} {v : Int32} {M : ej_Mem}, decode (ej_b me) pc = .ok (.ireturn, 1) → ej_rk (ej_rt me) a = true → ej_nar a v → some (some (.int v), M) = some r → ej_G p l e R s m args below meth c Q D cA a0 bs vZ L xs me z0 s0 pc ls [.int v] M) (hJ : ∀ {pc : Nat} {ls : ej_L} {v : Int64} {M : ej_Mem}, decode (ej_b me) pc = .ok (.lreturn, 1) → ej_rt me = some .long → some (some (.long v), M) = some r → ej_G p l e R s m args below meth c Q D cA a0 bs vZ L xs me z0 s0 pc ls [.long v] M) (hA : ∀ {pc : Nat} {ls : ej_L} {q : Option Nat} {M : ej_Mem}, decode (ej_b me) pc = .ok (.areturn, 1) → ej_rr (ej_rt me) = true → some (some (va_rf q), M) = some r → ej_G p l e R s m args below meth c Q D cA a0 bs vZ L xs me z0 s0 pc ls [va_rf q] M) (hV : ∀ {pc : Nat} {ls : ej_L} {M : ej_Mem}, decode (ej_b me) pc = .ok (.return_, 1) → ej_rt me = none → some (none, M) = some r → ej_G p l e R s m args below meth c Q D cA a0 bs vZ L xs me z0 s0 pc ls [] M) : ej_G p l e R s m args below meth c Q D cA a0 bs vZ L xs me z0 s0 pc ls st M := by
  obtain ⟨op, a, b, d, cc, ee⟩ := i
  simp only [ej_mt, Bool.and_eq_true, Bool.or_eq_true, decide_eq_true_eq] at hm
  obtain ⟨eop, eln, c1⟩ := hm
  have eop := Nat.eq_of_beq_eq_true eop
  subst eop
  have eln := Nat.eq_of_beq_eq_true eln
  subst eln
  replace h : (uL st fun y r => uL r fun x r => K (pc + 1) ls (.long (ej_lb a x y) :: r) M) = some r := h
  have e1 := Nat.eq_of_beq_eq_true c1
  subst e1
  replace h := uL_some h
  obtain ⟨y, r1, rfl, h⟩ := h
  replace h := uL_some h
  obtain ⟨x, r2, rfl, h⟩ := h
  exact sd_lsub C hd (hK _ _ _ _ h)
set_option maxHeartbeats 1000000 in
theorem so_34 (C : ej_Cx p s m args meth c D cA a0 bs vZ L xs me)  (hd : decode (ej_b me) pc = .ok (.lshl, len)) (hm : ej_mt me pc len (.lshl) i = true) (h : ej_stp ej_sw cl i pc len ls st M K = some r) (hK : ∀ pc ls st M, K pc ls st M = some r → ej_G p l e R s m args below meth c Q D cA a0 bs vZ L xs me z0 s0 pc ls st M) (hmo : ∀ pc ls st M, K pc ls st M = some r → mZ M ≤ mZ r.2 ∧ mS M ≤ mS r.2) (hRc : mZ r.2 - z0 ≤ R.cells ∧ mS r.2 - s0 ≤ R.slots) (hR : d0 + 1 ≤ R.frames ∧ 38 * (d0 + 1) ≤ R.locals) (hcl : ∀ m av M1 v M2, m < 221 → cl m av M1 = some (v, M2) → ej_Met l D cA a0 bs vZ L xs d0 m av M1 v M2 ∧ mZ M1 ≤ mZ M2 ∧ mS M1 ≤ mS M2) (hI : ∀ {pc a : Nat} {ls : ej_L} {v : Int32} {M : ej_Mem}, decode (ej_b me) pc = .ok (.ireturn, 1) → ej_rk (ej_rt me) a = true → ej_nar a v → some (some (.int v), M) = some r → ej_G p l e R s m args below meth c Q D cA a0 bs vZ L xs me z0 s0 pc ls [.int v] M) (hJ : ∀ {pc : Nat} {ls : ej_L} {v : Int64} {M : ej_Mem}, decode (ej_b me) pc = .ok (.lreturn, 1) → ej_rt me = some .long → some (some (.long v), M) = some r → ej_G p l e R s m args below meth c Q D cA a0 bs vZ L xs me z0 s0 pc ls [.long v] M) (hA : ∀ {pc : Nat} {ls : ej_L} {q : Option Nat} {M : ej_Mem}, decode (ej_b me) pc = .ok (.areturn, 1) → ej_rr (ej_rt me) = true → some (some (va_rf q), M) = some r → ej_G p l e R s m args below meth c Q D cA a0 bs vZ L xs me z0 s0 pc ls [va_rf q] M) (hV : ∀ {pc : Nat} {ls : ej_L} {M : ej_Mem}, decode (ej_b me) pc = .ok (.return_, 1) → ej_rt me = none → some (none, M) = some r → ej_G p l e R s m args below meth c Q D cA a0 bs vZ L xs me z0 s0 pc ls [] M) : ej_G p l e R s m args below meth c Q D cA a0 bs vZ L xs me z0 s0 pc ls st M := by
  obtain ⟨op, a, b, d, cc, ee⟩ := i
  simp only [ej_mt, Bool.and_eq_true, Bool.or_eq_true, decide_eq_true_eq] at hm
  obtain ⟨eop, eln, c1⟩ := hm
  have eop := Nat.eq_of_beq_eq_true eop
  subst eop
  have eln := Nat.eq_of_beq_eq_true eln
  subst eln
  replace h : (uI st fun y r => uL r fun x r => K (pc + 1) ls (.long (ej_ls a x y) :: r) M) = some r := h
  have e1 := Nat.eq_of_beq_eq_true c1
  subst e1
  replace h := uI_some h
  obtain ⟨y, r1, rfl, h⟩ := h
  replace h := uL_some h
  obtain ⟨x, r2, rfl, h⟩ := h
  exact sd_lshl C hd (hK _ _ _ _ h)
set_option maxHeartbeats 1000000 in
theorem so_35 (C : ej_Cx p s m args meth c D cA a0 bs vZ L xs me)  (hd : decode (ej_b me) pc = .ok (.lshr, len)) (hm : ej_mt me pc len (.lshr) i = true) (h : ej_stp ej_sw cl i pc len ls st M K = some r) (hK : ∀ pc ls st M, K pc ls st M = some r → ej_G p l e R s m args below meth c Q D cA a0 bs vZ L xs me z0 s0 pc ls st M) (hmo : ∀ pc ls st M, K pc ls st M = some r → mZ M ≤ mZ r.2 ∧ mS M ≤ mS r.2) (hRc : mZ r.2 - z0 ≤ R.cells ∧ mS r.2 - s0 ≤ R.slots) (hR : d0 + 1 ≤ R.frames ∧ 38 * (d0 + 1) ≤ R.locals) (hcl : ∀ m av M1 v M2, m < 221 → cl m av M1 = some (v, M2) → ej_Met l D cA a0 bs vZ L xs d0 m av M1 v M2 ∧ mZ M1 ≤ mZ M2 ∧ mS M1 ≤ mS M2) (hI : ∀ {pc a : Nat} {ls : ej_L} {v : Int32} {M : ej_Mem}, decode (ej_b me) pc = .ok (.ireturn, 1) → ej_rk (ej_rt me) a = true → ej_nar a v → some (some (.int v), M) = some r → ej_G p l e R s m args below meth c Q D cA a0 bs vZ L xs me z0 s0 pc ls [.int v] M) (hJ : ∀ {pc : Nat} {ls : ej_L} {v : Int64} {M : ej_Mem}, decode (ej_b me) pc = .ok (.lreturn, 1) → ej_rt me = some .long → some (some (.long v), M) = some r → ej_G p l e R s m args below meth c Q D cA a0 bs vZ L xs me z0 s0 pc ls [.long v] M) (hA : ∀ {pc : Nat} {ls : ej_L} {q : Option Nat} {M : ej_Mem}, decode (ej_b me) pc = .ok (.areturn, 1) → ej_rr (ej_rt me) = true → some (some (va_rf q), M) = some r → ej_G p l e R s m args below meth c Q D cA a0 bs vZ L xs me z0 s0 pc ls [va_rf q] M) (hV : ∀ {pc : Nat} {ls : ej_L} {M : ej_Mem}, decode (ej_b me) pc = .ok (.return_, 1) → ej_rt me = none → some (none, M) = some r → ej_G p l e R s m args below meth c Q D cA a0 bs vZ L xs me z0 s0 pc ls [] M) : ej_G p l e R s m args below meth c Q D cA a0 bs vZ L xs me z0 s0 pc ls st M := by
  obtain ⟨op, a, b, d, cc, ee⟩ := i
  simp only [ej_mt, Bool.and_eq_true, Bool.or_eq_true, decide_eq_true_eq] at hm
  obtain ⟨eop, eln, c1⟩ := hm
  have eop := Nat.eq_of_beq_eq_true eop
  subst eop
  have eln := Nat.eq_of_beq_eq_true eln
  subst eln
  replace h : (uI st fun y r => uL r fun x r => K (pc + 1) ls (.long (ej_ls a x y) :: r) M) = some r := h
  have e1 := Nat.eq_of_beq_eq_true c1
  subst e1
  replace h := uI_some h
  obtain ⟨y, r1, rfl, h⟩ := h
  replace h := uL_some h
  obtain ⟨x, r2, rfl, h⟩ := h
  exact sd_lshr C hd (hK _ _ _ _ h)
set_option maxHeartbeats 1000000 in
theorem so_36 (C : ej_Cx p s m args meth c D cA a0 bs vZ L xs me)  (hd : decode (ej_b me) pc = .ok (.i2l, len)) (hm : ej_mt me pc len (.i2l) i = true) (h : ej_stp ej_sw cl i pc len ls st M K = some r) (hK : ∀ pc ls st M, K pc ls st M = some r → ej_G p l e R s m args below meth c Q D cA a0 bs vZ L xs me z0 s0 pc ls st M) (hmo : ∀ pc ls st M, K pc ls st M = some r → mZ M ≤ mZ r.2 ∧ mS M ≤ mS r.2) (hRc : mZ r.2 - z0 ≤ R.cells ∧ mS r.2 - s0 ≤ R.slots) (hR : d0 + 1 ≤ R.frames ∧ 38 * (d0 + 1) ≤ R.locals) (hcl : ∀ m av M1 v M2, m < 221 → cl m av M1 = some (v, M2) → ej_Met l D cA a0 bs vZ L xs d0 m av M1 v M2 ∧ mZ M1 ≤ mZ M2 ∧ mS M1 ≤ mS M2) (hI : ∀ {pc a : Nat} {ls : ej_L} {v : Int32} {M : ej_Mem}, decode (ej_b me) pc = .ok (.ireturn, 1) → ej_rk (ej_rt me) a = true → ej_nar a v → some (some (.int v), M) = some r → ej_G p l e R s m args below meth c Q D cA a0 bs vZ L xs me z0 s0 pc ls [.int v] M) (hJ : ∀ {pc : Nat} {ls : ej_L} {v : Int64} {M : ej_Mem}, decode (ej_b me) pc = .ok (.lreturn, 1) → ej_rt me = some .long → some (some (.long v), M) = some r → ej_G p l e R s m args below meth c Q D cA a0 bs vZ L xs me z0 s0 pc ls [.long v] M) (hA : ∀ {pc : Nat} {ls : ej_L} {q : Option Nat} {M : ej_Mem}, decode (ej_b me) pc = .ok (.areturn, 1) → ej_rr (ej_rt me) = true → some (some (va_rf q), M) = some r → ej_G p l e R s m args below meth c Q D cA a0 bs vZ L xs me z0 s0 pc ls [va_rf q] M) (hV : ∀ {pc : Nat} {ls : ej_L} {M : ej_Mem}, decode (ej_b me) pc = .ok (.return_, 1) → ej_rt me = none → some (none, M) = some r → ej_G p l e R s m args below meth c Q D cA a0 bs vZ L xs me z0 s0 pc ls [] M) : ej_G p l e R s m args below meth c Q D cA a0 bs vZ L xs me z0 s0 pc ls st M := by
  obtain ⟨op, a, b, d, cc, ee⟩ := i
  simp only [ej_mt, Bool.and_eq_true, Bool.or_eq_true, decide_eq_true_eq] at hm
  obtain ⟨eop, eln, c1⟩ := hm
  have eop := Nat.eq_of_beq_eq_true eop
  subst eop
  have eln := Nat.eq_of_beq_eq_true eln
  subst eln
  replace h : (uI st fun x r => K (pc + 1) ls (ej_cv a x :: r) M) = some r := h
  have e1 := Nat.eq_of_beq_eq_true c1
  subst e1
  replace h := uI_some h
  obtain ⟨x, r1, rfl, h⟩ := h
  exact sd_i2l C hd (hK _ _ _ _ h)
set_option maxHeartbeats 1000000 in
theorem so_37 (C : ej_Cx p s m args meth c D cA a0 bs vZ L xs me)  (hd : decode (ej_b me) pc = .ok (.i2b, len)) (hm : ej_mt me pc len (.i2b) i = true) (h : ej_stp ej_sw cl i pc len ls st M K = some r) (hK : ∀ pc ls st M, K pc ls st M = some r → ej_G p l e R s m args below meth c Q D cA a0 bs vZ L xs me z0 s0 pc ls st M) (hmo : ∀ pc ls st M, K pc ls st M = some r → mZ M ≤ mZ r.2 ∧ mS M ≤ mS r.2) (hRc : mZ r.2 - z0 ≤ R.cells ∧ mS r.2 - s0 ≤ R.slots) (hR : d0 + 1 ≤ R.frames ∧ 38 * (d0 + 1) ≤ R.locals) (hcl : ∀ m av M1 v M2, m < 221 → cl m av M1 = some (v, M2) → ej_Met l D cA a0 bs vZ L xs d0 m av M1 v M2 ∧ mZ M1 ≤ mZ M2 ∧ mS M1 ≤ mS M2) (hI : ∀ {pc a : Nat} {ls : ej_L} {v : Int32} {M : ej_Mem}, decode (ej_b me) pc = .ok (.ireturn, 1) → ej_rk (ej_rt me) a = true → ej_nar a v → some (some (.int v), M) = some r → ej_G p l e R s m args below meth c Q D cA a0 bs vZ L xs me z0 s0 pc ls [.int v] M) (hJ : ∀ {pc : Nat} {ls : ej_L} {v : Int64} {M : ej_Mem}, decode (ej_b me) pc = .ok (.lreturn, 1) → ej_rt me = some .long → some (some (.long v), M) = some r → ej_G p l e R s m args below meth c Q D cA a0 bs vZ L xs me z0 s0 pc ls [.long v] M) (hA : ∀ {pc : Nat} {ls : ej_L} {q : Option Nat} {M : ej_Mem}, decode (ej_b me) pc = .ok (.areturn, 1) → ej_rr (ej_rt me) = true → some (some (va_rf q), M) = some r → ej_G p l e R s m args below meth c Q D cA a0 bs vZ L xs me z0 s0 pc ls [va_rf q] M) (hV : ∀ {pc : Nat} {ls : ej_L} {M : ej_Mem}, decode (ej_b me) pc = .ok (.return_, 1) → ej_rt me = none → some (none, M) = some r → ej_G p l e R s m args below meth c Q D cA a0 bs vZ L xs me z0 s0 pc ls [] M) : ej_G p l e R s m args below meth c Q D cA a0 bs vZ L xs me z0 s0 pc ls st M := by
  obtain ⟨op, a, b, d, cc, ee⟩ := i
  simp only [ej_mt, Bool.and_eq_true, Bool.or_eq_true, decide_eq_true_eq] at hm
  obtain ⟨eop, eln, c1⟩ := hm
  have eop := Nat.eq_of_beq_eq_true eop
  subst eop
  have eln := Nat.eq_of_beq_eq_true eln
  subst eln
  replace h : (uI st fun x r => K (pc + 1) ls (ej_cv a x :: r) M) = some r := h
  have e1 := Nat.eq_of_beq_eq_true c1
  subst e1
  replace h := uI_some h
  obtain ⟨x, r1, rfl, h⟩ := h
  exact sd_i2b C hd (hK _ _ _ _ h)
set_option maxHeartbeats 1000000 in
theorem so_38 (C : ej_Cx p s m args meth c D cA a0 bs vZ L xs me)  (hd : decode (ej_b me) pc = .ok (.i2c, len)) (hm : ej_mt me pc len (.i2c) i = true) (h : ej_stp ej_sw cl i pc len ls st M K = some r) (hK : ∀ pc ls st M, K pc ls st M = some r → ej_G p l e R s m args below meth c Q D cA a0 bs vZ L xs me z0 s0 pc ls st M) (hmo : ∀ pc ls st M, K pc ls st M = some r → mZ M ≤ mZ r.2 ∧ mS M ≤ mS r.2) (hRc : mZ r.2 - z0 ≤ R.cells ∧ mS r.2 - s0 ≤ R.slots) (hR : d0 + 1 ≤ R.frames ∧ 38 * (d0 + 1) ≤ R.locals) (hcl : ∀ m av M1 v M2, m < 221 → cl m av M1 = some (v, M2) → ej_Met l D cA a0 bs vZ L xs d0 m av M1 v M2 ∧ mZ M1 ≤ mZ M2 ∧ mS M1 ≤ mS M2) (hI : ∀ {pc a : Nat} {ls : ej_L} {v : Int32} {M : ej_Mem}, decode (ej_b me) pc = .ok (.ireturn, 1) → ej_rk (ej_rt me) a = true → ej_nar a v → some (some (.int v), M) = some r → ej_G p l e R s m args below meth c Q D cA a0 bs vZ L xs me z0 s0 pc ls [.int v] M) (hJ : ∀ {pc : Nat} {ls : ej_L} {v : Int64} {M : ej_Mem}, decode (ej_b me) pc = .ok (.lreturn, 1) → ej_rt me = some .long → some (some (.long v), M) = some r → ej_G p l e R s m args below meth c Q D cA a0 bs vZ L xs me z0 s0 pc ls [.long v] M) (hA : ∀ {pc : Nat} {ls : ej_L} {q : Option Nat} {M : ej_Mem}, decode (ej_b me) pc = .ok (.areturn, 1) → ej_rr (ej_rt me) = true → some (some (va_rf q), M) = some r → ej_G p l e R s m args below meth c Q D cA a0 bs vZ L xs me z0 s0 pc ls [va_rf q] M) (hV : ∀ {pc : Nat} {ls : ej_L} {M : ej_Mem}, decode (ej_b me) pc = .ok (.return_, 1) → ej_rt me = none → some (none, M) = some r → ej_G p l e R s m args below meth c Q D cA a0 bs vZ L xs me z0 s0 pc ls [] M) : ej_G p l e R s m args below meth c Q D cA a0 bs vZ L xs me z0 s0 pc ls st M := by
  obtain ⟨op, a, b, d, cc, ee⟩ := i
  simp only [ej_mt, Bool.and_eq_true, Bool.or_eq_true, decide_eq_true_eq] at hm
  obtain ⟨eop, eln, c1⟩ := hm
  have eop := Nat.eq_of_beq_eq_true eop
  subst eop
  have eln := Nat.eq_of_beq_eq_true eln
  subst eln
  replace h : (uI st fun x r => K (pc + 1) ls (ej_cv a x :: r) M) = some r := h
  have e1 := Nat.eq_of_beq_eq_true c1
  subst e1
  replace h := uI_some h
  obtain ⟨x, r1, rfl, h⟩ := h
  exact sd_i2c C hd (hK _ _ _ _ h)
set_option maxHeartbeats 1000000 in
theorem so_39 (C : ej_Cx p s m args meth c D cA a0 bs vZ L xs me)  (hd : decode (ej_b me) pc = .ok (.lcmp, len)) (hm : ej_mt me pc len (.lcmp) i = true) (h : ej_stp ej_sw cl i pc len ls st M K = some r) (hK : ∀ pc ls st M, K pc ls st M = some r → ej_G p l e R s m args below meth c Q D cA a0 bs vZ L xs me z0 s0 pc ls st M) (hmo : ∀ pc ls st M, K pc ls st M = some r → mZ M ≤ mZ r.2 ∧ mS M ≤ mS r.2) (hRc : mZ r.2 - z0 ≤ R.cells ∧ mS r.2 - s0 ≤ R.slots) (hR : d0 + 1 ≤ R.frames ∧ 38 * (d0 + 1) ≤ R.locals) (hcl : ∀ m av M1 v M2, m < 221 → cl m av M1 = some (v, M2) → ej_Met l D cA a0 bs vZ L xs d0 m av M1 v M2 ∧ mZ M1 ≤ mZ M2 ∧ mS M1 ≤ mS M2) (hI : ∀ {pc a : Nat} {ls : ej_L} {v : Int32} {M : ej_Mem}, decode (ej_b me) pc = .ok (.ireturn, 1) → ej_rk (ej_rt me) a = true → ej_nar a v → some (some (.int v), M) = some r → ej_G p l e R s m args below meth c Q D cA a0 bs vZ L xs me z0 s0 pc ls [.int v] M) (hJ : ∀ {pc : Nat} {ls : ej_L} {v : Int64} {M : ej_Mem}, decode (ej_b me) pc = .ok (.lreturn, 1) → ej_rt me = some .long → some (some (.long v), M) = some r → ej_G p l e R s m args below meth c Q D cA a0 bs vZ L xs me z0 s0 pc ls [.long v] M) (hA : ∀ {pc : Nat} {ls : ej_L} {q : Option Nat} {M : ej_Mem}, decode (ej_b me) pc = .ok (.areturn, 1) → ej_rr (ej_rt me) = true → some (some (va_rf q), M) = some r → ej_G p l e R s m args below meth c Q D cA a0 bs vZ L xs me z0 s0 pc ls [va_rf q] M) (hV : ∀ {pc : Nat} {ls : ej_L} {M : ej_Mem}, decode (ej_b me) pc = .ok (.return_, 1) → ej_rt me = none → some (none, M) = some r → ej_G p l e R s m args below meth c Q D cA a0 bs vZ L xs me z0 s0 pc ls [] M) : ej_G p l e R s m args below meth c Q D cA a0 bs vZ L xs me z0 s0 pc ls st M := by
  obtain ⟨op, a, b, d, cc, ee⟩ := i
  simp only [ej_mt, Bool.and_eq_true, Bool.or_eq_true, decide_eq_true_eq] at hm
  obtain ⟨eop, eln⟩ := hm
  have eop := Nat.eq_of_beq_eq_true eop
  subst eop
  have eln := Nat.eq_of_beq_eq_true eln
  subst eln
  replace h : (uL st fun y r => uL r fun x r => K (pc + 1) ls (.int (lg_cmp x y) :: r) M) = some r := h
  replace h := uL_some h
  obtain ⟨y, r1, rfl, h⟩ := h
  replace h := uL_some h
  obtain ⟨x, r2, rfl, h⟩ := h
  exact sd_lcmp C hd (hK _ _ _ _ h)
set_option maxHeartbeats 1000000 in
theorem so_40 (C : ej_Cx p s m args meth c D cA a0 bs vZ L xs me)  (hd : decode (ej_b me) pc = .ok (.dup, len)) (hm : ej_mt me pc len (.dup) i = true) (h : ej_stp ej_sw cl i pc len ls st M K = some r) (hK : ∀ pc ls st M, K pc ls st M = some r → ej_G p l e R s m args below meth c Q D cA a0 bs vZ L xs me z0 s0 pc ls st M) (hmo : ∀ pc ls st M, K pc ls st M = some r → mZ M ≤ mZ r.2 ∧ mS M ≤ mS r.2) (hRc : mZ r.2 - z0 ≤ R.cells ∧ mS r.2 - s0 ≤ R.slots) (hR : d0 + 1 ≤ R.frames ∧ 38 * (d0 + 1) ≤ R.locals) (hcl : ∀ m av M1 v M2, m < 221 → cl m av M1 = some (v, M2) → ej_Met l D cA a0 bs vZ L xs d0 m av M1 v M2 ∧ mZ M1 ≤ mZ M2 ∧ mS M1 ≤ mS M2) (hI : ∀ {pc a : Nat} {ls : ej_L} {v : Int32} {M : ej_Mem}, decode (ej_b me) pc = .ok (.ireturn, 1) → ej_rk (ej_rt me) a = true → ej_nar a v → some (some (.int v), M) = some r → ej_G p l e R s m args below meth c Q D cA a0 bs vZ L xs me z0 s0 pc ls [.int v] M) (hJ : ∀ {pc : Nat} {ls : ej_L} {v : Int64} {M : ej_Mem}, decode (ej_b me) pc = .ok (.lreturn, 1) → ej_rt me = some .long → some (some (.long v), M) = some r → ej_G p l e R s m args below meth c Q D cA a0 bs vZ L xs me z0 s0 pc ls [.long v] M) (hA : ∀ {pc : Nat} {ls : ej_L} {q : Option Nat} {M : ej_Mem}, decode (ej_b me) pc = .ok (.areturn, 1) → ej_rr (ej_rt me) = true → some (some (va_rf q), M) = some r → ej_G p l e R s m args below meth c Q D cA a0 bs vZ L xs me z0 s0 pc ls [va_rf q] M) (hV : ∀ {pc : Nat} {ls : ej_L} {M : ej_Mem}, decode (ej_b me) pc = .ok (.return_, 1) → ej_rt me = none → some (none, M) = some r → ej_G p l e R s m args below meth c Q D cA a0 bs vZ L xs me z0 s0 pc ls [] M) : ej_G p l e R s m args below meth c Q D cA a0 bs vZ L xs me z0 s0 pc ls st M := by
  obtain ⟨op, a, b, d, cc, ee⟩ := i
  simp only [ej_mt, Bool.and_eq_true, Bool.or_eq_true, decide_eq_true_eq] at hm
  obtain ⟨eop, eln⟩ := hm
  have eop := Nat.eq_of_beq_eq_true eop
  subst eop
  have eln := Nat.eq_of_beq_eq_true eln
  subst eln
  replace h : (uV st fun v r => K (pc + 1) ls (v :: v :: r) M) = some r := h
  replace h := uV_some h
  obtain ⟨v, r1, rfl, hv, h⟩ := h
  exact sd_dup C hd hv (hK _ _ _ _ h)
set_option maxHeartbeats 1000000 in
theorem so_41 (C : ej_Cx p s m args meth c D cA a0 bs vZ L xs me)  (hd : decode (ej_b me) pc = .ok (.dup2, len)) (hm : ej_mt me pc len (.dup2) i = true) (h : ej_stp ej_sw cl i pc len ls st M K = some r) (hK : ∀ pc ls st M, K pc ls st M = some r → ej_G p l e R s m args below meth c Q D cA a0 bs vZ L xs me z0 s0 pc ls st M) (hmo : ∀ pc ls st M, K pc ls st M = some r → mZ M ≤ mZ r.2 ∧ mS M ≤ mS r.2) (hRc : mZ r.2 - z0 ≤ R.cells ∧ mS r.2 - s0 ≤ R.slots) (hR : d0 + 1 ≤ R.frames ∧ 38 * (d0 + 1) ≤ R.locals) (hcl : ∀ m av M1 v M2, m < 221 → cl m av M1 = some (v, M2) → ej_Met l D cA a0 bs vZ L xs d0 m av M1 v M2 ∧ mZ M1 ≤ mZ M2 ∧ mS M1 ≤ mS M2) (hI : ∀ {pc a : Nat} {ls : ej_L} {v : Int32} {M : ej_Mem}, decode (ej_b me) pc = .ok (.ireturn, 1) → ej_rk (ej_rt me) a = true → ej_nar a v → some (some (.int v), M) = some r → ej_G p l e R s m args below meth c Q D cA a0 bs vZ L xs me z0 s0 pc ls [.int v] M) (hJ : ∀ {pc : Nat} {ls : ej_L} {v : Int64} {M : ej_Mem}, decode (ej_b me) pc = .ok (.lreturn, 1) → ej_rt me = some .long → some (some (.long v), M) = some r → ej_G p l e R s m args below meth c Q D cA a0 bs vZ L xs me z0 s0 pc ls [.long v] M) (hA : ∀ {pc : Nat} {ls : ej_L} {q : Option Nat} {M : ej_Mem}, decode (ej_b me) pc = .ok (.areturn, 1) → ej_rr (ej_rt me) = true → some (some (va_rf q), M) = some r → ej_G p l e R s m args below meth c Q D cA a0 bs vZ L xs me z0 s0 pc ls [va_rf q] M) (hV : ∀ {pc : Nat} {ls : ej_L} {M : ej_Mem}, decode (ej_b me) pc = .ok (.return_, 1) → ej_rt me = none → some (none, M) = some r → ej_G p l e R s m args below meth c Q D cA a0 bs vZ L xs me z0 s0 pc ls [] M) : ej_G p l e R s m args below meth c Q D cA a0 bs vZ L xs me z0 s0 pc ls st M := by
  obtain ⟨op, a, b, d, cc, ee⟩ := i
  simp only [ej_mt, Bool.and_eq_true, Bool.or_eq_true, decide_eq_true_eq] at hm
  obtain ⟨eop, eln⟩ := hm
  have eop := Nat.eq_of_beq_eq_true eop
  subst eop
  have eln := Nat.eq_of_beq_eq_true eln
  subst eln
  replace h : (uV st fun v r => uV r fun w r => K (pc + 1) ls (v :: w :: v :: w :: r) M) = some r := h
  replace h := uV_some h
  obtain ⟨v, r1, rfl, hv, h⟩ := h
  replace h := uV_some h
  obtain ⟨w, r2, rfl, hw, h⟩ := h
  exact sd_dup2 C hd hv hw (hK _ _ _ _ h)
set_option maxHeartbeats 1000000 in
theorem so_42 (C : ej_Cx p s m args meth c D cA a0 bs vZ L xs me)  (hd : decode (ej_b me) pc = .ok (.pop, len)) (hm : ej_mt me pc len (.pop) i = true) (h : ej_stp ej_sw cl i pc len ls st M K = some r) (hK : ∀ pc ls st M, K pc ls st M = some r → ej_G p l e R s m args below meth c Q D cA a0 bs vZ L xs me z0 s0 pc ls st M) (hmo : ∀ pc ls st M, K pc ls st M = some r → mZ M ≤ mZ r.2 ∧ mS M ≤ mS r.2) (hRc : mZ r.2 - z0 ≤ R.cells ∧ mS r.2 - s0 ≤ R.slots) (hR : d0 + 1 ≤ R.frames ∧ 38 * (d0 + 1) ≤ R.locals) (hcl : ∀ m av M1 v M2, m < 221 → cl m av M1 = some (v, M2) → ej_Met l D cA a0 bs vZ L xs d0 m av M1 v M2 ∧ mZ M1 ≤ mZ M2 ∧ mS M1 ≤ mS M2) (hI : ∀ {pc a : Nat} {ls : ej_L} {v : Int32} {M : ej_Mem}, decode (ej_b me) pc = .ok (.ireturn, 1) → ej_rk (ej_rt me) a = true → ej_nar a v → some (some (.int v), M) = some r → ej_G p l e R s m args below meth c Q D cA a0 bs vZ L xs me z0 s0 pc ls [.int v] M) (hJ : ∀ {pc : Nat} {ls : ej_L} {v : Int64} {M : ej_Mem}, decode (ej_b me) pc = .ok (.lreturn, 1) → ej_rt me = some .long → some (some (.long v), M) = some r → ej_G p l e R s m args below meth c Q D cA a0 bs vZ L xs me z0 s0 pc ls [.long v] M) (hA : ∀ {pc : Nat} {ls : ej_L} {q : Option Nat} {M : ej_Mem}, decode (ej_b me) pc = .ok (.areturn, 1) → ej_rr (ej_rt me) = true → some (some (va_rf q), M) = some r → ej_G p l e R s m args below meth c Q D cA a0 bs vZ L xs me z0 s0 pc ls [va_rf q] M) (hV : ∀ {pc : Nat} {ls : ej_L} {M : ej_Mem}, decode (ej_b me) pc = .ok (.return_, 1) → ej_rt me = none → some (none, M) = some r → ej_G p l e R s m args below meth c Q D cA a0 bs vZ L xs me z0 s0 pc ls [] M) : ej_G p l e R s m args below meth c Q D cA a0 bs vZ L xs me z0 s0 pc ls st M := by
  obtain ⟨op, a, b, d, cc, ee⟩ := i
  simp only [ej_mt, Bool.and_eq_true, Bool.or_eq_true, decide_eq_true_eq] at hm
  obtain ⟨eop, eln⟩ := hm
  have eop := Nat.eq_of_beq_eq_true eop
  subst eop
  have eln := Nat.eq_of_beq_eq_true eln
  subst eln
  replace h : (uV st fun _ r => K (pc + 1) ls r M) = some r := h
  replace h := uV_some h
  obtain ⟨v, r1, rfl, hv, h⟩ := h
  exact sd_pop C hd hv (hK _ _ _ _ h)
set_option maxHeartbeats 1000000 in
theorem so_43 (C : ej_Cx p s m args meth c D cA a0 bs vZ L xs me) {off : Int} (hd : decode (ej_b me) pc = .ok (.goto off, len)) (hm : ej_mt me pc len (.goto off) i = true) (h : ej_stp ej_sw cl i pc len ls st M K = some r) (hK : ∀ pc ls st M, K pc ls st M = some r → ej_G p l e R s m args below meth c Q D cA a0 bs vZ L xs me z0 s0 pc ls st M) (hmo : ∀ pc ls st M, K pc ls st M = some r → mZ M ≤ mZ r.2 ∧ mS M ≤ mS r.2) (hRc : mZ r.2 - z0 ≤ R.cells ∧ mS r.2 - s0 ≤ R.slots) (hR : d0 + 1 ≤ R.frames ∧ 38 * (d0 + 1) ≤ R.locals) (hcl : ∀ m av M1 v M2, m < 221 → cl m av M1 = some (v, M2) → ej_Met l D cA a0 bs vZ L xs d0 m av M1 v M2 ∧ mZ M1 ≤ mZ M2 ∧ mS M1 ≤ mS M2) (hI : ∀ {pc a : Nat} {ls : ej_L} {v : Int32} {M : ej_Mem}, decode (ej_b me) pc = .ok (.ireturn, 1) → ej_rk (ej_rt me) a = true → ej_nar a v → some (some (.int v), M) = some r → ej_G p l e R s m args below meth c Q D cA a0 bs vZ L xs me z0 s0 pc ls [.int v] M) (hJ : ∀ {pc : Nat} {ls : ej_L} {v : Int64} {M : ej_Mem}, decode (ej_b me) pc = .ok (.lreturn, 1) → ej_rt me = some .long → some (some (.long v), M) = some r → ej_G p l e R s m args below meth c Q D cA a0 bs vZ L xs me z0 s0 pc ls [.long v] M) (hA : ∀ {pc : Nat} {ls : ej_L} {q : Option Nat} {M : ej_Mem}, decode (ej_b me) pc = .ok (.areturn, 1) → ej_rr (ej_rt me) = true → some (some (va_rf q), M) = some r → ej_G p l e R s m args below meth c Q D cA a0 bs vZ L xs me z0 s0 pc ls [va_rf q] M) (hV : ∀ {pc : Nat} {ls : ej_L} {M : ej_Mem}, decode (ej_b me) pc = .ok (.return_, 1) → ej_rt me = none → some (none, M) = some r → ej_G p l e R s m args below meth c Q D cA a0 bs vZ L xs me z0 s0 pc ls [] M) : ej_G p l e R s m args below meth c Q D cA a0 bs vZ L xs me z0 s0 pc ls st M := by
  obtain ⟨op, a, b, d, cc, ee⟩ := i
  simp only [ej_mt, Bool.and_eq_true, Bool.or_eq_true, decide_eq_true_eq] at hm
  obtain ⟨eop, eln, c1⟩ := hm
  have eop := Nat.eq_of_beq_eq_true eop
  subst eop
  have eln := Nat.eq_of_beq_eq_true eln
  subst eln
  replace h : (K a ls st M) = some r := h
  exact sd_goto C hd c1 (hK _ _ _ _ h)
set_option maxHeartbeats 1000000 in
theorem so_44 (C : ej_Cx p s m args meth c D cA a0 bs vZ L xs me) {off : Int} (hd : decode (ej_b me) pc = .ok (.ifCond .eq off, len)) (hm : ej_mt me pc len (.ifCond .eq off) i = true) (h : ej_stp ej_sw cl i pc len ls st M K = some r) (hK : ∀ pc ls st M, K pc ls st M = some r → ej_G p l e R s m args below meth c Q D cA a0 bs vZ L xs me z0 s0 pc ls st M) (hmo : ∀ pc ls st M, K pc ls st M = some r → mZ M ≤ mZ r.2 ∧ mS M ≤ mS r.2) (hRc : mZ r.2 - z0 ≤ R.cells ∧ mS r.2 - s0 ≤ R.slots) (hR : d0 + 1 ≤ R.frames ∧ 38 * (d0 + 1) ≤ R.locals) (hcl : ∀ m av M1 v M2, m < 221 → cl m av M1 = some (v, M2) → ej_Met l D cA a0 bs vZ L xs d0 m av M1 v M2 ∧ mZ M1 ≤ mZ M2 ∧ mS M1 ≤ mS M2) (hI : ∀ {pc a : Nat} {ls : ej_L} {v : Int32} {M : ej_Mem}, decode (ej_b me) pc = .ok (.ireturn, 1) → ej_rk (ej_rt me) a = true → ej_nar a v → some (some (.int v), M) = some r → ej_G p l e R s m args below meth c Q D cA a0 bs vZ L xs me z0 s0 pc ls [.int v] M) (hJ : ∀ {pc : Nat} {ls : ej_L} {v : Int64} {M : ej_Mem}, decode (ej_b me) pc = .ok (.lreturn, 1) → ej_rt me = some .long → some (some (.long v), M) = some r → ej_G p l e R s m args below meth c Q D cA a0 bs vZ L xs me z0 s0 pc ls [.long v] M) (hA : ∀ {pc : Nat} {ls : ej_L} {q : Option Nat} {M : ej_Mem}, decode (ej_b me) pc = .ok (.areturn, 1) → ej_rr (ej_rt me) = true → some (some (va_rf q), M) = some r → ej_G p l e R s m args below meth c Q D cA a0 bs vZ L xs me z0 s0 pc ls [va_rf q] M) (hV : ∀ {pc : Nat} {ls : ej_L} {M : ej_Mem}, decode (ej_b me) pc = .ok (.return_, 1) → ej_rt me = none → some (none, M) = some r → ej_G p l e R s m args below meth c Q D cA a0 bs vZ L xs me z0 s0 pc ls [] M) : ej_G p l e R s m args below meth c Q D cA a0 bs vZ L xs me z0 s0 pc ls st M := by
  obtain ⟨op, a, b, d, cc, ee⟩ := i
  simp only [ej_mt, Bool.and_eq_true, Bool.or_eq_true, decide_eq_true_eq] at hm
  obtain ⟨eop, eln, c1, c2⟩ := hm
  have eop := Nat.eq_of_beq_eq_true eop
  subst eop
  have eln := Nat.eq_of_beq_eq_true eln
  subst eln
  replace h : (uI st fun x r => ej_cnd b x 0 (K a ls r M) (K (pc + 3) ls r M)) = some r := h
  have e1 := Nat.eq_of_beq_eq_true c1
  subst e1
  replace h := uI_some h
  obtain ⟨x, r1, rfl, h⟩ := h
  exact sd_if_eq C hd c2 (fun q => hK _ _ _ _ (by rw [← h]; simp [ej_cnd, q])) (fun q => hK _ _ _ _ (by rw [← h]; simp [ej_cnd, q]))
set_option maxHeartbeats 1000000 in
theorem so_45 (C : ej_Cx p s m args meth c D cA a0 bs vZ L xs me) {off : Int} (hd : decode (ej_b me) pc = .ok (.if_icmp .eq off, len)) (hm : ej_mt me pc len (.if_icmp .eq off) i = true) (h : ej_stp ej_sw cl i pc len ls st M K = some r) (hK : ∀ pc ls st M, K pc ls st M = some r → ej_G p l e R s m args below meth c Q D cA a0 bs vZ L xs me z0 s0 pc ls st M) (hmo : ∀ pc ls st M, K pc ls st M = some r → mZ M ≤ mZ r.2 ∧ mS M ≤ mS r.2) (hRc : mZ r.2 - z0 ≤ R.cells ∧ mS r.2 - s0 ≤ R.slots) (hR : d0 + 1 ≤ R.frames ∧ 38 * (d0 + 1) ≤ R.locals) (hcl : ∀ m av M1 v M2, m < 221 → cl m av M1 = some (v, M2) → ej_Met l D cA a0 bs vZ L xs d0 m av M1 v M2 ∧ mZ M1 ≤ mZ M2 ∧ mS M1 ≤ mS M2) (hI : ∀ {pc a : Nat} {ls : ej_L} {v : Int32} {M : ej_Mem}, decode (ej_b me) pc = .ok (.ireturn, 1) → ej_rk (ej_rt me) a = true → ej_nar a v → some (some (.int v), M) = some r → ej_G p l e R s m args below meth c Q D cA a0 bs vZ L xs me z0 s0 pc ls [.int v] M) (hJ : ∀ {pc : Nat} {ls : ej_L} {v : Int64} {M : ej_Mem}, decode (ej_b me) pc = .ok (.lreturn, 1) → ej_rt me = some .long → some (some (.long v), M) = some r → ej_G p l e R s m args below meth c Q D cA a0 bs vZ L xs me z0 s0 pc ls [.long v] M) (hA : ∀ {pc : Nat} {ls : ej_L} {q : Option Nat} {M : ej_Mem}, decode (ej_b me) pc = .ok (.areturn, 1) → ej_rr (ej_rt me) = true → some (some (va_rf q), M) = some r → ej_G p l e R s m args below meth c Q D cA a0 bs vZ L xs me z0 s0 pc ls [va_rf q] M) (hV : ∀ {pc : Nat} {ls : ej_L} {M : ej_Mem}, decode (ej_b me) pc = .ok (.return_, 1) → ej_rt me = none → some (none, M) = some r → ej_G p l e R s m args below meth c Q D cA a0 bs vZ L xs me z0 s0 pc ls [] M) : ej_G p l e R s m args below meth c Q D cA a0 bs vZ L xs me z0 s0 pc ls st M := by
  obtain ⟨op, a, b, d, cc, ee⟩ := i
  simp only [ej_mt, Bool.and_eq_true, Bool.or_eq_true, decide_eq_true_eq] at hm
  obtain ⟨eop, eln, c1, c2⟩ := hm
  have eop := Nat.eq_of_beq_eq_true eop
  subst eop
  have eln := Nat.eq_of_beq_eq_true eln
  subst eln
  replace h : (uI st fun y r => uI r fun x r => ej_cnd b x y (K a ls r M) (K (pc + 3) ls r M)) = some r := h
  have e1 := Nat.eq_of_beq_eq_true c1
  subst e1
  replace h := uI_some h
  obtain ⟨y, r1, rfl, h⟩ := h
  replace h := uI_some h
  obtain ⟨x, r2, rfl, h⟩ := h
  exact sd_icmp_eq C hd c2 (fun q => hK _ _ _ _ (by rw [← h]; simp [ej_cnd, q])) (fun q => hK _ _ _ _ (by rw [← h]; simp [ej_cnd, q]))
set_option maxHeartbeats 1000000 in
theorem so_46 (C : ej_Cx p s m args meth c D cA a0 bs vZ L xs me) {off : Int} (hd : decode (ej_b me) pc = .ok (.ifCond .ne off, len)) (hm : ej_mt me pc len (.ifCond .ne off) i = true) (h : ej_stp ej_sw cl i pc len ls st M K = some r) (hK : ∀ pc ls st M, K pc ls st M = some r → ej_G p l e R s m args below meth c Q D cA a0 bs vZ L xs me z0 s0 pc ls st M) (hmo : ∀ pc ls st M, K pc ls st M = some r → mZ M ≤ mZ r.2 ∧ mS M ≤ mS r.2) (hRc : mZ r.2 - z0 ≤ R.cells ∧ mS r.2 - s0 ≤ R.slots) (hR : d0 + 1 ≤ R.frames ∧ 38 * (d0 + 1) ≤ R.locals) (hcl : ∀ m av M1 v M2, m < 221 → cl m av M1 = some (v, M2) → ej_Met l D cA a0 bs vZ L xs d0 m av M1 v M2 ∧ mZ M1 ≤ mZ M2 ∧ mS M1 ≤ mS M2) (hI : ∀ {pc a : Nat} {ls : ej_L} {v : Int32} {M : ej_Mem}, decode (ej_b me) pc = .ok (.ireturn, 1) → ej_rk (ej_rt me) a = true → ej_nar a v → some (some (.int v), M) = some r → ej_G p l e R s m args below meth c Q D cA a0 bs vZ L xs me z0 s0 pc ls [.int v] M) (hJ : ∀ {pc : Nat} {ls : ej_L} {v : Int64} {M : ej_Mem}, decode (ej_b me) pc = .ok (.lreturn, 1) → ej_rt me = some .long → some (some (.long v), M) = some r → ej_G p l e R s m args below meth c Q D cA a0 bs vZ L xs me z0 s0 pc ls [.long v] M) (hA : ∀ {pc : Nat} {ls : ej_L} {q : Option Nat} {M : ej_Mem}, decode (ej_b me) pc = .ok (.areturn, 1) → ej_rr (ej_rt me) = true → some (some (va_rf q), M) = some r → ej_G p l e R s m args below meth c Q D cA a0 bs vZ L xs me z0 s0 pc ls [va_rf q] M) (hV : ∀ {pc : Nat} {ls : ej_L} {M : ej_Mem}, decode (ej_b me) pc = .ok (.return_, 1) → ej_rt me = none → some (none, M) = some r → ej_G p l e R s m args below meth c Q D cA a0 bs vZ L xs me z0 s0 pc ls [] M) : ej_G p l e R s m args below meth c Q D cA a0 bs vZ L xs me z0 s0 pc ls st M := by
  obtain ⟨op, a, b, d, cc, ee⟩ := i
  simp only [ej_mt, Bool.and_eq_true, Bool.or_eq_true, decide_eq_true_eq] at hm
  obtain ⟨eop, eln, c1, c2⟩ := hm
  have eop := Nat.eq_of_beq_eq_true eop
  subst eop
  have eln := Nat.eq_of_beq_eq_true eln
  subst eln
  replace h : (uI st fun x r => ej_cnd b x 0 (K a ls r M) (K (pc + 3) ls r M)) = some r := h
  have e1 := Nat.eq_of_beq_eq_true c1
  subst e1
  replace h := uI_some h
  obtain ⟨x, r1, rfl, h⟩ := h
  exact sd_if_ne C hd c2 (fun q => hK _ _ _ _ (by rw [← h]; simp [ej_cnd, q])) (fun q => hK _ _ _ _ (by rw [← h]; simp [ej_cnd, q]))
set_option maxHeartbeats 1000000 in
theorem so_47 (C : ej_Cx p s m args meth c D cA a0 bs vZ L xs me) {off : Int} (hd : decode (ej_b me) pc = .ok (.if_icmp .ne off, len)) (hm : ej_mt me pc len (.if_icmp .ne off) i = true) (h : ej_stp ej_sw cl i pc len ls st M K = some r) (hK : ∀ pc ls st M, K pc ls st M = some r → ej_G p l e R s m args below meth c Q D cA a0 bs vZ L xs me z0 s0 pc ls st M) (hmo : ∀ pc ls st M, K pc ls st M = some r → mZ M ≤ mZ r.2 ∧ mS M ≤ mS r.2) (hRc : mZ r.2 - z0 ≤ R.cells ∧ mS r.2 - s0 ≤ R.slots) (hR : d0 + 1 ≤ R.frames ∧ 38 * (d0 + 1) ≤ R.locals) (hcl : ∀ m av M1 v M2, m < 221 → cl m av M1 = some (v, M2) → ej_Met l D cA a0 bs vZ L xs d0 m av M1 v M2 ∧ mZ M1 ≤ mZ M2 ∧ mS M1 ≤ mS M2) (hI : ∀ {pc a : Nat} {ls : ej_L} {v : Int32} {M : ej_Mem}, decode (ej_b me) pc = .ok (.ireturn, 1) → ej_rk (ej_rt me) a = true → ej_nar a v → some (some (.int v), M) = some r → ej_G p l e R s m args below meth c Q D cA a0 bs vZ L xs me z0 s0 pc ls [.int v] M) (hJ : ∀ {pc : Nat} {ls : ej_L} {v : Int64} {M : ej_Mem}, decode (ej_b me) pc = .ok (.lreturn, 1) → ej_rt me = some .long → some (some (.long v), M) = some r → ej_G p l e R s m args below meth c Q D cA a0 bs vZ L xs me z0 s0 pc ls [.long v] M) (hA : ∀ {pc : Nat} {ls : ej_L} {q : Option Nat} {M : ej_Mem}, decode (ej_b me) pc = .ok (.areturn, 1) → ej_rr (ej_rt me) = true → some (some (va_rf q), M) = some r → ej_G p l e R s m args below meth c Q D cA a0 bs vZ L xs me z0 s0 pc ls [va_rf q] M) (hV : ∀ {pc : Nat} {ls : ej_L} {M : ej_Mem}, decode (ej_b me) pc = .ok (.return_, 1) → ej_rt me = none → some (none, M) = some r → ej_G p l e R s m args below meth c Q D cA a0 bs vZ L xs me z0 s0 pc ls [] M) : ej_G p l e R s m args below meth c Q D cA a0 bs vZ L xs me z0 s0 pc ls st M := by
  obtain ⟨op, a, b, d, cc, ee⟩ := i
  simp only [ej_mt, Bool.and_eq_true, Bool.or_eq_true, decide_eq_true_eq] at hm
  obtain ⟨eop, eln, c1, c2⟩ := hm
  have eop := Nat.eq_of_beq_eq_true eop
  subst eop
  have eln := Nat.eq_of_beq_eq_true eln
  subst eln
  replace h : (uI st fun y r => uI r fun x r => ej_cnd b x y (K a ls r M) (K (pc + 3) ls r M)) = some r := h
  have e1 := Nat.eq_of_beq_eq_true c1
  subst e1
  replace h := uI_some h
  obtain ⟨y, r1, rfl, h⟩ := h
  replace h := uI_some h
  obtain ⟨x, r2, rfl, h⟩ := h
  exact sd_icmp_ne C hd c2 (fun q => hK _ _ _ _ (by rw [← h]; simp [ej_cnd, q])) (fun q => hK _ _ _ _ (by rw [← h]; simp [ej_cnd, q]))
set_option maxHeartbeats 1000000 in
theorem so_48 (C : ej_Cx p s m args meth c D cA a0 bs vZ L xs me) {off : Int} (hd : decode (ej_b me) pc = .ok (.ifCond .lt off, len)) (hm : ej_mt me pc len (.ifCond .lt off) i = true) (h : ej_stp ej_sw cl i pc len ls st M K = some r) (hK : ∀ pc ls st M, K pc ls st M = some r → ej_G p l e R s m args below meth c Q D cA a0 bs vZ L xs me z0 s0 pc ls st M) (hmo : ∀ pc ls st M, K pc ls st M = some r → mZ M ≤ mZ r.2 ∧ mS M ≤ mS r.2) (hRc : mZ r.2 - z0 ≤ R.cells ∧ mS r.2 - s0 ≤ R.slots) (hR : d0 + 1 ≤ R.frames ∧ 38 * (d0 + 1) ≤ R.locals) (hcl : ∀ m av M1 v M2, m < 221 → cl m av M1 = some (v, M2) → ej_Met l D cA a0 bs vZ L xs d0 m av M1 v M2 ∧ mZ M1 ≤ mZ M2 ∧ mS M1 ≤ mS M2) (hI : ∀ {pc a : Nat} {ls : ej_L} {v : Int32} {M : ej_Mem}, decode (ej_b me) pc = .ok (.ireturn, 1) → ej_rk (ej_rt me) a = true → ej_nar a v → some (some (.int v), M) = some r → ej_G p l e R s m args below meth c Q D cA a0 bs vZ L xs me z0 s0 pc ls [.int v] M) (hJ : ∀ {pc : Nat} {ls : ej_L} {v : Int64} {M : ej_Mem}, decode (ej_b me) pc = .ok (.lreturn, 1) → ej_rt me = some .long → some (some (.long v), M) = some r → ej_G p l e R s m args below meth c Q D cA a0 bs vZ L xs me z0 s0 pc ls [.long v] M) (hA : ∀ {pc : Nat} {ls : ej_L} {q : Option Nat} {M : ej_Mem}, decode (ej_b me) pc = .ok (.areturn, 1) → ej_rr (ej_rt me) = true → some (some (va_rf q), M) = some r → ej_G p l e R s m args below meth c Q D cA a0 bs vZ L xs me z0 s0 pc ls [va_rf q] M) (hV : ∀ {pc : Nat} {ls : ej_L} {M : ej_Mem}, decode (ej_b me) pc = .ok (.return_, 1) → ej_rt me = none → some (none, M) = some r → ej_G p l e R s m args below meth c Q D cA a0 bs vZ L xs me z0 s0 pc ls [] M) : ej_G p l e R s m args below meth c Q D cA a0 bs vZ L xs me z0 s0 pc ls st M := by
  obtain ⟨op, a, b, d, cc, ee⟩ := i
  simp only [ej_mt, Bool.and_eq_true, Bool.or_eq_true, decide_eq_true_eq] at hm
  obtain ⟨eop, eln, c1, c2⟩ := hm
  have eop := Nat.eq_of_beq_eq_true eop
  subst eop
  have eln := Nat.eq_of_beq_eq_true eln
  subst eln
  replace h : (uI st fun x r => ej_cnd b x 0 (K a ls r M) (K (pc + 3) ls r M)) = some r := h
  have e1 := Nat.eq_of_beq_eq_true c1
  subst e1
  replace h := uI_some h
  obtain ⟨x, r1, rfl, h⟩ := h
  exact sd_if_lt C hd c2 (fun q => hK _ _ _ _ (by rw [← h]; simp [ej_cnd, q])) (fun q => hK _ _ _ _ (by rw [← h]; simp [ej_cnd, q]))
set_option maxHeartbeats 1000000 in
theorem so_49 (C : ej_Cx p s m args meth c D cA a0 bs vZ L xs me) {off : Int} (hd : decode (ej_b me) pc = .ok (.if_icmp .lt off, len)) (hm : ej_mt me pc len (.if_icmp .lt off) i = true) (h : ej_stp ej_sw cl i pc len ls st M K = some r) (hK : ∀ pc ls st M, K pc ls st M = some r → ej_G p l e R s m args below meth c Q D cA a0 bs vZ L xs me z0 s0 pc ls st M) (hmo : ∀ pc ls st M, K pc ls st M = some r → mZ M ≤ mZ r.2 ∧ mS M ≤ mS r.2) (hRc : mZ r.2 - z0 ≤ R.cells ∧ mS r.2 - s0 ≤ R.slots) (hR : d0 + 1 ≤ R.frames ∧ 38 * (d0 + 1) ≤ R.locals) (hcl : ∀ m av M1 v M2, m < 221 → cl m av M1 = some (v, M2) → ej_Met l D cA a0 bs vZ L xs d0 m av M1 v M2 ∧ mZ M1 ≤ mZ M2 ∧ mS M1 ≤ mS M2) (hI : ∀ {pc a : Nat} {ls : ej_L} {v : Int32} {M : ej_Mem}, decode (ej_b me) pc = .ok (.ireturn, 1) → ej_rk (ej_rt me) a = true → ej_nar a v → some (some (.int v), M) = some r → ej_G p l e R s m args below meth c Q D cA a0 bs vZ L xs me z0 s0 pc ls [.int v] M) (hJ : ∀ {pc : Nat} {ls : ej_L} {v : Int64} {M : ej_Mem}, decode (ej_b me) pc = .ok (.lreturn, 1) → ej_rt me = some .long → some (some (.long v), M) = some r → ej_G p l e R s m args below meth c Q D cA a0 bs vZ L xs me z0 s0 pc ls [.long v] M) (hA : ∀ {pc : Nat} {ls : ej_L} {q : Option Nat} {M : ej_Mem}, decode (ej_b me) pc = .ok (.areturn, 1) → ej_rr (ej_rt me) = true → some (some (va_rf q), M) = some r → ej_G p l e R s m args below meth c Q D cA a0 bs vZ L xs me z0 s0 pc ls [va_rf q] M) (hV : ∀ {pc : Nat} {ls : ej_L} {M : ej_Mem}, decode (ej_b me) pc = .ok (.return_, 1) → ej_rt me = none → some (none, M) = some r → ej_G p l e R s m args below meth c Q D cA a0 bs vZ L xs me z0 s0 pc ls [] M) : ej_G p l e R s m args below meth c Q D cA a0 bs vZ L xs me z0 s0 pc ls st M := by
  obtain ⟨op, a, b, d, cc, ee⟩ := i
  simp only [ej_mt, Bool.and_eq_true, Bool.or_eq_true, decide_eq_true_eq] at hm
  obtain ⟨eop, eln, c1, c2⟩ := hm
  have eop := Nat.eq_of_beq_eq_true eop
  subst eop
  have eln := Nat.eq_of_beq_eq_true eln
  subst eln
  replace h : (uI st fun y r => uI r fun x r => ej_cnd b x y (K a ls r M) (K (pc + 3) ls r M)) = some r := h
  have e1 := Nat.eq_of_beq_eq_true c1
  subst e1
  replace h := uI_some h
  obtain ⟨y, r1, rfl, h⟩ := h
  replace h := uI_some h
  obtain ⟨x, r2, rfl, h⟩ := h
  exact sd_icmp_lt C hd c2 (fun q => hK _ _ _ _ (by rw [← h]; simp [ej_cnd, q])) (fun q => hK _ _ _ _ (by rw [← h]; simp [ej_cnd, q]))
set_option maxHeartbeats 1000000 in
theorem so_50 (C : ej_Cx p s m args meth c D cA a0 bs vZ L xs me) {off : Int} (hd : decode (ej_b me) pc = .ok (.ifCond .ge off, len)) (hm : ej_mt me pc len (.ifCond .ge off) i = true) (h : ej_stp ej_sw cl i pc len ls st M K = some r) (hK : ∀ pc ls st M, K pc ls st M = some r → ej_G p l e R s m args below meth c Q D cA a0 bs vZ L xs me z0 s0 pc ls st M) (hmo : ∀ pc ls st M, K pc ls st M = some r → mZ M ≤ mZ r.2 ∧ mS M ≤ mS r.2) (hRc : mZ r.2 - z0 ≤ R.cells ∧ mS r.2 - s0 ≤ R.slots) (hR : d0 + 1 ≤ R.frames ∧ 38 * (d0 + 1) ≤ R.locals) (hcl : ∀ m av M1 v M2, m < 221 → cl m av M1 = some (v, M2) → ej_Met l D cA a0 bs vZ L xs d0 m av M1 v M2 ∧ mZ M1 ≤ mZ M2 ∧ mS M1 ≤ mS M2) (hI : ∀ {pc a : Nat} {ls : ej_L} {v : Int32} {M : ej_Mem}, decode (ej_b me) pc = .ok (.ireturn, 1) → ej_rk (ej_rt me) a = true → ej_nar a v → some (some (.int v), M) = some r → ej_G p l e R s m args below meth c Q D cA a0 bs vZ L xs me z0 s0 pc ls [.int v] M) (hJ : ∀ {pc : Nat} {ls : ej_L} {v : Int64} {M : ej_Mem}, decode (ej_b me) pc = .ok (.lreturn, 1) → ej_rt me = some .long → some (some (.long v), M) = some r → ej_G p l e R s m args below meth c Q D cA a0 bs vZ L xs me z0 s0 pc ls [.long v] M) (hA : ∀ {pc : Nat} {ls : ej_L} {q : Option Nat} {M : ej_Mem}, decode (ej_b me) pc = .ok (.areturn, 1) → ej_rr (ej_rt me) = true → some (some (va_rf q), M) = some r → ej_G p l e R s m args below meth c Q D cA a0 bs vZ L xs me z0 s0 pc ls [va_rf q] M) (hV : ∀ {pc : Nat} {ls : ej_L} {M : ej_Mem}, decode (ej_b me) pc = .ok (.return_, 1) → ej_rt me = none → some (none, M) = some r → ej_G p l e R s m args below meth c Q D cA a0 bs vZ L xs me z0 s0 pc ls [] M) : ej_G p l e R s m args below meth c Q D cA a0 bs vZ L xs me z0 s0 pc ls st M := by
  obtain ⟨op, a, b, d, cc, ee⟩ := i
  simp only [ej_mt, Bool.and_eq_true, Bool.or_eq_true, decide_eq_true_eq] at hm
  obtain ⟨eop, eln, c1, c2⟩ := hm
  have eop := Nat.eq_of_beq_eq_true eop
  subst eop
  have eln := Nat.eq_of_beq_eq_true eln
  subst eln
  replace h : (uI st fun x r => ej_cnd b x 0 (K a ls r M) (K (pc + 3) ls r M)) = some r := h
  have e1 := Nat.eq_of_beq_eq_true c1
  subst e1
  replace h := uI_some h
  obtain ⟨x, r1, rfl, h⟩ := h
  exact sd_if_ge C hd c2 (fun q => hK _ _ _ _ (by rw [← h]; simp [ej_cnd, q])) (fun q => hK _ _ _ _ (by rw [← h]; simp [ej_cnd, q]))
set_option maxHeartbeats 1000000 in
theorem so_51 (C : ej_Cx p s m args meth c D cA a0 bs vZ L xs me) {off : Int} (hd : decode (ej_b me) pc = .ok (.if_icmp .ge off, len)) (hm : ej_mt me pc len (.if_icmp .ge off) i = true) (h : ej_stp ej_sw cl i pc len ls st M K = some r) (hK : ∀ pc ls st M, K pc ls st M = some r → ej_G p l e R s m args below meth c Q D cA a0 bs vZ L xs me z0 s0 pc ls st M) (hmo : ∀ pc ls st M, K pc ls st M = some r → mZ M ≤ mZ r.2 ∧ mS M ≤ mS r.2) (hRc : mZ r.2 - z0 ≤ R.cells ∧ mS r.2 - s0 ≤ R.slots) (hR : d0 + 1 ≤ R.frames ∧ 38 * (d0 + 1) ≤ R.locals) (hcl : ∀ m av M1 v M2, m < 221 → cl m av M1 = some (v, M2) → ej_Met l D cA a0 bs vZ L xs d0 m av M1 v M2 ∧ mZ M1 ≤ mZ M2 ∧ mS M1 ≤ mS M2) (hI : ∀ {pc a : Nat} {ls : ej_L} {v : Int32} {M : ej_Mem}, decode (ej_b me) pc = .ok (.ireturn, 1) → ej_rk (ej_rt me) a = true → ej_nar a v → some (some (.int v), M) = some r → ej_G p l e R s m args below meth c Q D cA a0 bs vZ L xs me z0 s0 pc ls [.int v] M) (hJ : ∀ {pc : Nat} {ls : ej_L} {v : Int64} {M : ej_Mem}, decode (ej_b me) pc = .ok (.lreturn, 1) → ej_rt me = some .long → some (some (.long v), M) = some r → ej_G p l e R s m args below meth c Q D cA a0 bs vZ L xs me z0 s0 pc ls [.long v] M) (hA : ∀ {pc : Nat} {ls : ej_L} {q : Option Nat} {M : ej_Mem}, decode (ej_b me) pc = .ok (.areturn, 1) → ej_rr (ej_rt me) = true → some (some (va_rf q), M) = some r → ej_G p l e R s m args below meth c Q D cA a0 bs vZ L xs me z0 s0 pc ls [va_rf q] M) (hV : ∀ {pc : Nat} {ls : ej_L} {M : ej_Mem}, decode (ej_b me) pc = .ok (.return_, 1) → ej_rt me = none → some (none, M) = some r → ej_G p l e R s m args below meth c Q D cA a0 bs vZ L xs me z0 s0 pc ls [] M) : ej_G p l e R s m args below meth c Q D cA a0 bs vZ L xs me z0 s0 pc ls st M := by
  obtain ⟨op, a, b, d, cc, ee⟩ := i
  simp only [ej_mt, Bool.and_eq_true, Bool.or_eq_true, decide_eq_true_eq] at hm
  obtain ⟨eop, eln, c1, c2⟩ := hm
  have eop := Nat.eq_of_beq_eq_true eop
  subst eop
  have eln := Nat.eq_of_beq_eq_true eln
  subst eln
  replace h : (uI st fun y r => uI r fun x r => ej_cnd b x y (K a ls r M) (K (pc + 3) ls r M)) = some r := h
  have e1 := Nat.eq_of_beq_eq_true c1
  subst e1
  replace h := uI_some h
  obtain ⟨y, r1, rfl, h⟩ := h
  replace h := uI_some h
  obtain ⟨x, r2, rfl, h⟩ := h
  exact sd_icmp_ge C hd c2 (fun q => hK _ _ _ _ (by rw [← h]; simp [ej_cnd, q])) (fun q => hK _ _ _ _ (by rw [← h]; simp [ej_cnd, q]))
set_option maxHeartbeats 1000000 in
theorem so_52 (C : ej_Cx p s m args meth c D cA a0 bs vZ L xs me) {off : Int} (hd : decode (ej_b me) pc = .ok (.ifCond .gt off, len)) (hm : ej_mt me pc len (.ifCond .gt off) i = true) (h : ej_stp ej_sw cl i pc len ls st M K = some r) (hK : ∀ pc ls st M, K pc ls st M = some r → ej_G p l e R s m args below meth c Q D cA a0 bs vZ L xs me z0 s0 pc ls st M) (hmo : ∀ pc ls st M, K pc ls st M = some r → mZ M ≤ mZ r.2 ∧ mS M ≤ mS r.2) (hRc : mZ r.2 - z0 ≤ R.cells ∧ mS r.2 - s0 ≤ R.slots) (hR : d0 + 1 ≤ R.frames ∧ 38 * (d0 + 1) ≤ R.locals) (hcl : ∀ m av M1 v M2, m < 221 → cl m av M1 = some (v, M2) → ej_Met l D cA a0 bs vZ L xs d0 m av M1 v M2 ∧ mZ M1 ≤ mZ M2 ∧ mS M1 ≤ mS M2) (hI : ∀ {pc a : Nat} {ls : ej_L} {v : Int32} {M : ej_Mem}, decode (ej_b me) pc = .ok (.ireturn, 1) → ej_rk (ej_rt me) a = true → ej_nar a v → some (some (.int v), M) = some r → ej_G p l e R s m args below meth c Q D cA a0 bs vZ L xs me z0 s0 pc ls [.int v] M) (hJ : ∀ {pc : Nat} {ls : ej_L} {v : Int64} {M : ej_Mem}, decode (ej_b me) pc = .ok (.lreturn, 1) → ej_rt me = some .long → some (some (.long v), M) = some r → ej_G p l e R s m args below meth c Q D cA a0 bs vZ L xs me z0 s0 pc ls [.long v] M) (hA : ∀ {pc : Nat} {ls : ej_L} {q : Option Nat} {M : ej_Mem}, decode (ej_b me) pc = .ok (.areturn, 1) → ej_rr (ej_rt me) = true → some (some (va_rf q), M) = some r → ej_G p l e R s m args below meth c Q D cA a0 bs vZ L xs me z0 s0 pc ls [va_rf q] M) (hV : ∀ {pc : Nat} {ls : ej_L} {M : ej_Mem}, decode (ej_b me) pc = .ok (.return_, 1) → ej_rt me = none → some (none, M) = some r → ej_G p l e R s m args below meth c Q D cA a0 bs vZ L xs me z0 s0 pc ls [] M) : ej_G p l e R s m args below meth c Q D cA a0 bs vZ L xs me z0 s0 pc ls st M := by
  obtain ⟨op, a, b, d, cc, ee⟩ := i
  simp only [ej_mt, Bool.and_eq_true, Bool.or_eq_true, decide_eq_true_eq] at hm
  obtain ⟨eop, eln, c1, c2⟩ := hm
  have eop := Nat.eq_of_beq_eq_true eop
  subst eop
  have eln := Nat.eq_of_beq_eq_true eln
  subst eln
  replace h : (uI st fun x r => ej_cnd b x 0 (K a ls r M) (K (pc + 3) ls r M)) = some r := h
  have e1 := Nat.eq_of_beq_eq_true c1
  subst e1
  replace h := uI_some h
  obtain ⟨x, r1, rfl, h⟩ := h
  exact sd_if_gt C hd c2 (fun q => hK _ _ _ _ (by rw [← h]; simp [ej_cnd, q])) (fun q => hK _ _ _ _ (by rw [← h]; simp [ej_cnd, q]))
set_option maxHeartbeats 1000000 in
theorem so_53 (C : ej_Cx p s m args meth c D cA a0 bs vZ L xs me) {off : Int} (hd : decode (ej_b me) pc = .ok (.if_icmp .gt off, len)) (hm : ej_mt me pc len (.if_icmp .gt off) i = true) (h : ej_stp ej_sw cl i pc len ls st M K = some r) (hK : ∀ pc ls st M, K pc ls st M = some r → ej_G p l e R s m args below meth c Q D cA a0 bs vZ L xs me z0 s0 pc ls st M) (hmo : ∀ pc ls st M, K pc ls st M = some r → mZ M ≤ mZ r.2 ∧ mS M ≤ mS r.2) (hRc : mZ r.2 - z0 ≤ R.cells ∧ mS r.2 - s0 ≤ R.slots) (hR : d0 + 1 ≤ R.frames ∧ 38 * (d0 + 1) ≤ R.locals) (hcl : ∀ m av M1 v M2, m < 221 → cl m av M1 = some (v, M2) → ej_Met l D cA a0 bs vZ L xs d0 m av M1 v M2 ∧ mZ M1 ≤ mZ M2 ∧ mS M1 ≤ mS M2) (hI : ∀ {pc a : Nat} {ls : ej_L} {v : Int32} {M : ej_Mem}, decode (ej_b me) pc = .ok (.ireturn, 1) → ej_rk (ej_rt me) a = true → ej_nar a v → some (some (.int v), M) = some r → ej_G p l e R s m args below meth c Q D cA a0 bs vZ L xs me z0 s0 pc ls [.int v] M) (hJ : ∀ {pc : Nat} {ls : ej_L} {v : Int64} {M : ej_Mem}, decode (ej_b me) pc = .ok (.lreturn, 1) → ej_rt me = some .long → some (some (.long v), M) = some r → ej_G p l e R s m args below meth c Q D cA a0 bs vZ L xs me z0 s0 pc ls [.long v] M) (hA : ∀ {pc : Nat} {ls : ej_L} {q : Option Nat} {M : ej_Mem}, decode (ej_b me) pc = .ok (.areturn, 1) → ej_rr (ej_rt me) = true → some (some (va_rf q), M) = some r → ej_G p l e R s m args below meth c Q D cA a0 bs vZ L xs me z0 s0 pc ls [va_rf q] M) (hV : ∀ {pc : Nat} {ls : ej_L} {M : ej_Mem}, decode (ej_b me) pc = .ok (.return_, 1) → ej_rt me = none → some (none, M) = some r → ej_G p l e R s m args below meth c Q D cA a0 bs vZ L xs me z0 s0 pc ls [] M) : ej_G p l e R s m args below meth c Q D cA a0 bs vZ L xs me z0 s0 pc ls st M := by
  obtain ⟨op, a, b, d, cc, ee⟩ := i
  simp only [ej_mt, Bool.and_eq_true, Bool.or_eq_true, decide_eq_true_eq] at hm
  obtain ⟨eop, eln, c1, c2⟩ := hm
  have eop := Nat.eq_of_beq_eq_true eop
  subst eop
  have eln := Nat.eq_of_beq_eq_true eln
  subst eln
  replace h : (uI st fun y r => uI r fun x r => ej_cnd b x y (K a ls r M) (K (pc + 3) ls r M)) = some r := h
  have e1 := Nat.eq_of_beq_eq_true c1
  subst e1
  replace h := uI_some h
  obtain ⟨y, r1, rfl, h⟩ := h
  replace h := uI_some h
  obtain ⟨x, r2, rfl, h⟩ := h
  exact sd_icmp_gt C hd c2 (fun q => hK _ _ _ _ (by rw [← h]; simp [ej_cnd, q])) (fun q => hK _ _ _ _ (by rw [← h]; simp [ej_cnd, q]))
set_option maxHeartbeats 1000000 in
theorem so_54 (C : ej_Cx p s m args meth c D cA a0 bs vZ L xs me) {off : Int} (hd : decode (ej_b me) pc = .ok (.ifCond .le off, len)) (hm : ej_mt me pc len (.ifCond .le off) i = true) (h : ej_stp ej_sw cl i pc len ls st M K = some r) (hK : ∀ pc ls st M, K pc ls st M = some r → ej_G p l e R s m args below meth c Q D cA a0 bs vZ L xs me z0 s0 pc ls st M) (hmo : ∀ pc ls st M, K pc ls st M = some r → mZ M ≤ mZ r.2 ∧ mS M ≤ mS r.2) (hRc : mZ r.2 - z0 ≤ R.cells ∧ mS r.2 - s0 ≤ R.slots) (hR : d0 + 1 ≤ R.frames ∧ 38 * (d0 + 1) ≤ R.locals) (hcl : ∀ m av M1 v M2, m < 221 → cl m av M1 = some (v, M2) → ej_Met l D cA a0 bs vZ L xs d0 m av M1 v M2 ∧ mZ M1 ≤ mZ M2 ∧ mS M1 ≤ mS M2) (hI : ∀ {pc a : Nat} {ls : ej_L} {v : Int32} {M : ej_Mem}, decode (ej_b me) pc = .ok (.ireturn, 1) → ej_rk (ej_rt me) a = true → ej_nar a v → some (some (.int v), M) = some r → ej_G p l e R s m args below meth c Q D cA a0 bs vZ L xs me z0 s0 pc ls [.int v] M) (hJ : ∀ {pc : Nat} {ls : ej_L} {v : Int64} {M : ej_Mem}, decode (ej_b me) pc = .ok (.lreturn, 1) → ej_rt me = some .long → some (some (.long v), M) = some r → ej_G p l e R s m args below meth c Q D cA a0 bs vZ L xs me z0 s0 pc ls [.long v] M) (hA : ∀ {pc : Nat} {ls : ej_L} {q : Option Nat} {M : ej_Mem}, decode (ej_b me) pc = .ok (.areturn, 1) → ej_rr (ej_rt me) = true → some (some (va_rf q), M) = some r → ej_G p l e R s m args below meth c Q D cA a0 bs vZ L xs me z0 s0 pc ls [va_rf q] M) (hV : ∀ {pc : Nat} {ls : ej_L} {M : ej_Mem}, decode (ej_b me) pc = .ok (.return_, 1) → ej_rt me = none → some (none, M) = some r → ej_G p l e R s m args below meth c Q D cA a0 bs vZ L xs me z0 s0 pc ls [] M) : ej_G p l e R s m args below meth c Q D cA a0 bs vZ L xs me z0 s0 pc ls st M := by
  obtain ⟨op, a, b, d, cc, ee⟩ := i
  simp only [ej_mt, Bool.and_eq_true, Bool.or_eq_true, decide_eq_true_eq] at hm
  obtain ⟨eop, eln, c1, c2⟩ := hm
  have eop := Nat.eq_of_beq_eq_true eop
  subst eop
  have eln := Nat.eq_of_beq_eq_true eln
  subst eln
  replace h : (uI st fun x r => ej_cnd b x 0 (K a ls r M) (K (pc + 3) ls r M)) = some r := h
  have e1 := Nat.eq_of_beq_eq_true c1
  subst e1
  replace h := uI_some h
  obtain ⟨x, r1, rfl, h⟩ := h
  exact sd_if_le C hd c2 (fun q => hK _ _ _ _ (by rw [← h]; simp [ej_cnd, q])) (fun q => hK _ _ _ _ (by rw [← h]; simp [ej_cnd, q]))
set_option maxHeartbeats 1000000 in
theorem so_55 (C : ej_Cx p s m args meth c D cA a0 bs vZ L xs me) {off : Int} (hd : decode (ej_b me) pc = .ok (.if_icmp .le off, len)) (hm : ej_mt me pc len (.if_icmp .le off) i = true) (h : ej_stp ej_sw cl i pc len ls st M K = some r) (hK : ∀ pc ls st M, K pc ls st M = some r → ej_G p l e R s m args below meth c Q D cA a0 bs vZ L xs me z0 s0 pc ls st M) (hmo : ∀ pc ls st M, K pc ls st M = some r → mZ M ≤ mZ r.2 ∧ mS M ≤ mS r.2) (hRc : mZ r.2 - z0 ≤ R.cells ∧ mS r.2 - s0 ≤ R.slots) (hR : d0 + 1 ≤ R.frames ∧ 38 * (d0 + 1) ≤ R.locals) (hcl : ∀ m av M1 v M2, m < 221 → cl m av M1 = some (v, M2) → ej_Met l D cA a0 bs vZ L xs d0 m av M1 v M2 ∧ mZ M1 ≤ mZ M2 ∧ mS M1 ≤ mS M2) (hI : ∀ {pc a : Nat} {ls : ej_L} {v : Int32} {M : ej_Mem}, decode (ej_b me) pc = .ok (.ireturn, 1) → ej_rk (ej_rt me) a = true → ej_nar a v → some (some (.int v), M) = some r → ej_G p l e R s m args below meth c Q D cA a0 bs vZ L xs me z0 s0 pc ls [.int v] M) (hJ : ∀ {pc : Nat} {ls : ej_L} {v : Int64} {M : ej_Mem}, decode (ej_b me) pc = .ok (.lreturn, 1) → ej_rt me = some .long → some (some (.long v), M) = some r → ej_G p l e R s m args below meth c Q D cA a0 bs vZ L xs me z0 s0 pc ls [.long v] M) (hA : ∀ {pc : Nat} {ls : ej_L} {q : Option Nat} {M : ej_Mem}, decode (ej_b me) pc = .ok (.areturn, 1) → ej_rr (ej_rt me) = true → some (some (va_rf q), M) = some r → ej_G p l e R s m args below meth c Q D cA a0 bs vZ L xs me z0 s0 pc ls [va_rf q] M) (hV : ∀ {pc : Nat} {ls : ej_L} {M : ej_Mem}, decode (ej_b me) pc = .ok (.return_, 1) → ej_rt me = none → some (none, M) = some r → ej_G p l e R s m args below meth c Q D cA a0 bs vZ L xs me z0 s0 pc ls [] M) : ej_G p l e R s m args below meth c Q D cA a0 bs vZ L xs me z0 s0 pc ls st M := by
  obtain ⟨op, a, b, d, cc, ee⟩ := i
  simp only [ej_mt, Bool.and_eq_true, Bool.or_eq_true, decide_eq_true_eq] at hm
  obtain ⟨eop, eln, c1, c2⟩ := hm
  have eop := Nat.eq_of_beq_eq_true eop
  subst eop
  have eln := Nat.eq_of_beq_eq_true eln
  subst eln
  replace h : (uI st fun y r => uI r fun x r => ej_cnd b x y (K a ls r M) (K (pc + 3) ls r M)) = some r := h
  have e1 := Nat.eq_of_beq_eq_true c1
  subst e1
  replace h := uI_some h
  obtain ⟨y, r1, rfl, h⟩ := h
  replace h := uI_some h
  obtain ⟨x, r2, rfl, h⟩ := h
  exact sd_icmp_le C hd c2 (fun q => hK _ _ _ _ (by rw [← h]; simp [ej_cnd, q])) (fun q => hK _ _ _ _ (by rw [← h]; simp [ej_cnd, q]))
set_option maxHeartbeats 1000000 in
theorem so_56 (C : ej_Cx p s m args meth c D cA a0 bs vZ L xs me) {off : Int} (hd : decode (ej_b me) pc = .ok (.ifnull off, len)) (hm : ej_mt me pc len (.ifnull off) i = true) (h : ej_stp ej_sw cl i pc len ls st M K = some r) (hK : ∀ pc ls st M, K pc ls st M = some r → ej_G p l e R s m args below meth c Q D cA a0 bs vZ L xs me z0 s0 pc ls st M) (hmo : ∀ pc ls st M, K pc ls st M = some r → mZ M ≤ mZ r.2 ∧ mS M ≤ mS r.2) (hRc : mZ r.2 - z0 ≤ R.cells ∧ mS r.2 - s0 ≤ R.slots) (hR : d0 + 1 ≤ R.frames ∧ 38 * (d0 + 1) ≤ R.locals) (hcl : ∀ m av M1 v M2, m < 221 → cl m av M1 = some (v, M2) → ej_Met l D cA a0 bs vZ L xs d0 m av M1 v M2 ∧ mZ M1 ≤ mZ M2 ∧ mS M1 ≤ mS M2) (hI : ∀ {pc a : Nat} {ls : ej_L} {v : Int32} {M : ej_Mem}, decode (ej_b me) pc = .ok (.ireturn, 1) → ej_rk (ej_rt me) a = true → ej_nar a v → some (some (.int v), M) = some r → ej_G p l e R s m args below meth c Q D cA a0 bs vZ L xs me z0 s0 pc ls [.int v] M) (hJ : ∀ {pc : Nat} {ls : ej_L} {v : Int64} {M : ej_Mem}, decode (ej_b me) pc = .ok (.lreturn, 1) → ej_rt me = some .long → some (some (.long v), M) = some r → ej_G p l e R s m args below meth c Q D cA a0 bs vZ L xs me z0 s0 pc ls [.long v] M) (hA : ∀ {pc : Nat} {ls : ej_L} {q : Option Nat} {M : ej_Mem}, decode (ej_b me) pc = .ok (.areturn, 1) → ej_rr (ej_rt me) = true → some (some (va_rf q), M) = some r → ej_G p l e R s m args below meth c Q D cA a0 bs vZ L xs me z0 s0 pc ls [va_rf q] M) (hV : ∀ {pc : Nat} {ls : ej_L} {M : ej_Mem}, decode (ej_b me) pc = .ok (.return_, 1) → ej_rt me = none → some (none, M) = some r → ej_G p l e R s m args below meth c Q D cA a0 bs vZ L xs me z0 s0 pc ls [] M) : ej_G p l e R s m args below meth c Q D cA a0 bs vZ L xs me z0 s0 pc ls st M := by
  obtain ⟨op, a, b, d, cc, ee⟩ := i
  simp only [ej_mt, Bool.and_eq_true, Bool.or_eq_true, decide_eq_true_eq] at hm
  obtain ⟨eop, eln, c1⟩ := hm
  have eop := Nat.eq_of_beq_eq_true eop
  subst eop
  have eln := Nat.eq_of_beq_eq_true eln
  subst eln
  replace h : (uQ st fun q r => match q with
    | none => K a ls r M
    | some _ => K (pc + 3) ls r M) = some r := h
  replace h := uQ_some h
  obtain ⟨q, r1, rfl, h⟩ := h
  cases q with
  | none => exact sd_ifnull0 C hd c1 (hK _ _ _ _ h)
  | some q => exact sd_ifnull1 C hd (hK _ _ _ _ h)
set_option maxHeartbeats 1000000 in
theorem so_57 (C : ej_Cx p s m args meth c D cA a0 bs vZ L xs me) {off : Int} (hd : decode (ej_b me) pc = .ok (.ifnonnull off, len)) (hm : ej_mt me pc len (.ifnonnull off) i = true) (h : ej_stp ej_sw cl i pc len ls st M K = some r) (hK : ∀ pc ls st M, K pc ls st M = some r → ej_G p l e R s m args below meth c Q D cA a0 bs vZ L xs me z0 s0 pc ls st M) (hmo : ∀ pc ls st M, K pc ls st M = some r → mZ M ≤ mZ r.2 ∧ mS M ≤ mS r.2) (hRc : mZ r.2 - z0 ≤ R.cells ∧ mS r.2 - s0 ≤ R.slots) (hR : d0 + 1 ≤ R.frames ∧ 38 * (d0 + 1) ≤ R.locals) (hcl : ∀ m av M1 v M2, m < 221 → cl m av M1 = some (v, M2) → ej_Met l D cA a0 bs vZ L xs d0 m av M1 v M2 ∧ mZ M1 ≤ mZ M2 ∧ mS M1 ≤ mS M2) (hI : ∀ {pc a : Nat} {ls : ej_L} {v : Int32} {M : ej_Mem}, decode (ej_b me) pc = .ok (.ireturn, 1) → ej_rk (ej_rt me) a = true → ej_nar a v → some (some (.int v), M) = some r → ej_G p l e R s m args below meth c Q D cA a0 bs vZ L xs me z0 s0 pc ls [.int v] M) (hJ : ∀ {pc : Nat} {ls : ej_L} {v : Int64} {M : ej_Mem}, decode (ej_b me) pc = .ok (.lreturn, 1) → ej_rt me = some .long → some (some (.long v), M) = some r → ej_G p l e R s m args below meth c Q D cA a0 bs vZ L xs me z0 s0 pc ls [.long v] M) (hA : ∀ {pc : Nat} {ls : ej_L} {q : Option Nat} {M : ej_Mem}, decode (ej_b me) pc = .ok (.areturn, 1) → ej_rr (ej_rt me) = true → some (some (va_rf q), M) = some r → ej_G p l e R s m args below meth c Q D cA a0 bs vZ L xs me z0 s0 pc ls [va_rf q] M) (hV : ∀ {pc : Nat} {ls : ej_L} {M : ej_Mem}, decode (ej_b me) pc = .ok (.return_, 1) → ej_rt me = none → some (none, M) = some r → ej_G p l e R s m args below meth c Q D cA a0 bs vZ L xs me z0 s0 pc ls [] M) : ej_G p l e R s m args below meth c Q D cA a0 bs vZ L xs me z0 s0 pc ls st M := by
  obtain ⟨op, a, b, d, cc, ee⟩ := i
  simp only [ej_mt, Bool.and_eq_true, Bool.or_eq_true, decide_eq_true_eq] at hm
  obtain ⟨eop, eln, c1⟩ := hm
  have eop := Nat.eq_of_beq_eq_true eop
  subst eop
  have eln := Nat.eq_of_beq_eq_true eln
  subst eln
  replace h : (uQ st fun q r => match q with
    | none => K (pc + 3) ls r M
    | some _ => K a ls r M) = some r := h
  replace h := uQ_some h
  obtain ⟨q, r1, rfl, h⟩ := h
  cases q with
  | none => exact sd_ifnonnull0 C hd (hK _ _ _ _ h)
  | some q => exact sd_ifnonnull1 C hd c1 (hK _ _ _ _ h)
set_option maxHeartbeats 1000000 in
theorem so_58 (C : ej_Cx p s m args meth c D cA a0 bs vZ L xs me) {df : Int} {lo : Int} {hi : Int} {offs : Array Int} (hd : decode (ej_b me) pc = .ok (.tableswitch df lo hi offs, len)) (hm : ej_mt me pc len (.tableswitch df lo hi offs) i = true) (h : ej_stp ej_sw cl i pc len ls st M K = some r) (hK : ∀ pc ls st M, K pc ls st M = some r → ej_G p l e R s m args below meth c Q D cA a0 bs vZ L xs me z0 s0 pc ls st M) (hmo : ∀ pc ls st M, K pc ls st M = some r → mZ M ≤ mZ r.2 ∧ mS M ≤ mS r.2) (hRc : mZ r.2 - z0 ≤ R.cells ∧ mS r.2 - s0 ≤ R.slots) (hR : d0 + 1 ≤ R.frames ∧ 38 * (d0 + 1) ≤ R.locals) (hcl : ∀ m av M1 v M2, m < 221 → cl m av M1 = some (v, M2) → ej_Met l D cA a0 bs vZ L xs d0 m av M1 v M2 ∧ mZ M1 ≤ mZ M2 ∧ mS M1 ≤ mS M2) (hI : ∀ {pc a : Nat} {ls : ej_L} {v : Int32} {M : ej_Mem}, decode (ej_b me) pc = .ok (.ireturn, 1) → ej_rk (ej_rt me) a = true → ej_nar a v → some (some (.int v), M) = some r → ej_G p l e R s m args below meth c Q D cA a0 bs vZ L xs me z0 s0 pc ls [.int v] M) (hJ : ∀ {pc : Nat} {ls : ej_L} {v : Int64} {M : ej_Mem}, decode (ej_b me) pc = .ok (.lreturn, 1) → ej_rt me = some .long → some (some (.long v), M) = some r → ej_G p l e R s m args below meth c Q D cA a0 bs vZ L xs me z0 s0 pc ls [.long v] M) (hA : ∀ {pc : Nat} {ls : ej_L} {q : Option Nat} {M : ej_Mem}, decode (ej_b me) pc = .ok (.areturn, 1) → ej_rr (ej_rt me) = true → some (some (va_rf q), M) = some r → ej_G p l e R s m args below meth c Q D cA a0 bs vZ L xs me z0 s0 pc ls [va_rf q] M) (hV : ∀ {pc : Nat} {ls : ej_L} {M : ej_Mem}, decode (ej_b me) pc = .ok (.return_, 1) → ej_rt me = none → some (none, M) = some r → ej_G p l e R s m args below meth c Q D cA a0 bs vZ L xs me z0 s0 pc ls [] M) : ej_G p l e R s m args below meth c Q D cA a0 bs vZ L xs me z0 s0 pc ls st M := by
  obtain ⟨op, a, b, d, cc, ee⟩ := i
  simp only [ej_mt, Bool.and_eq_true, Bool.or_eq_true, decide_eq_true_eq] at hm
  obtain ⟨eop, c1⟩ := hm
  have eop := Nat.eq_of_beq_eq_true eop
  subst eop
  replace h : (uI st fun x r => ej_swi x (ej_sw b) (fun t => K t ls r M) (K a ls r M)) = some r := h
  replace h := uI_some h
  obtain ⟨x, r1, rfl, h⟩ := h
  exact sd_table C hd c1 hK h
set_option maxHeartbeats 1000000 in
theorem so_59 (C : ej_Cx p s m args meth c D cA a0 bs vZ L xs me) {n : Nat} (hd : decode (ej_b me) pc = .ok (.getfield n, len)) (hm : ej_mt me pc len (.getfield n) i = true) (h : ej_stp ej_sw cl i pc len ls st M K = some r) (hK : ∀ pc ls st M, K pc ls st M = some r → ej_G p l e R s m args below meth c Q D cA a0 bs vZ L xs me z0 s0 pc ls st M) (hmo : ∀ pc ls st M, K pc ls st M = some r → mZ M ≤ mZ r.2 ∧ mS M ≤ mS r.2) (hRc : mZ r.2 - z0 ≤ R.cells ∧ mS r.2 - s0 ≤ R.slots) (hR : d0 + 1 ≤ R.frames ∧ 38 * (d0 + 1) ≤ R.locals) (hcl : ∀ m av M1 v M2, m < 221 → cl m av M1 = some (v, M2) → ej_Met l D cA a0 bs vZ L xs d0 m av M1 v M2 ∧ mZ M1 ≤ mZ M2 ∧ mS M1 ≤ mS M2) (hI : ∀ {pc a : Nat} {ls : ej_L} {v : Int32} {M : ej_Mem}, decode (ej_b me) pc = .ok (.ireturn, 1) → ej_rk (ej_rt me) a = true → ej_nar a v → some (some (.int v), M) = some r → ej_G p l e R s m args below meth c Q D cA a0 bs vZ L xs me z0 s0 pc ls [.int v] M) (hJ : ∀ {pc : Nat} {ls : ej_L} {v : Int64} {M : ej_Mem}, decode (ej_b me) pc = .ok (.lreturn, 1) → ej_rt me = some .long → some (some (.long v), M) = some r → ej_G p l e R s m args below meth c Q D cA a0 bs vZ L xs me z0 s0 pc ls [.long v] M) (hA : ∀ {pc : Nat} {ls : ej_L} {q : Option Nat} {M : ej_Mem}, decode (ej_b me) pc = .ok (.areturn, 1) → ej_rr (ej_rt me) = true → some (some (va_rf q), M) = some r → ej_G p l e R s m args below meth c Q D cA a0 bs vZ L xs me z0 s0 pc ls [va_rf q] M) (hV : ∀ {pc : Nat} {ls : ej_L} {M : ej_Mem}, decode (ej_b me) pc = .ok (.return_, 1) → ej_rt me = none → some (none, M) = some r → ej_G p l e R s m args below meth c Q D cA a0 bs vZ L xs me z0 s0 pc ls [] M) : ej_G p l e R s m args below meth c Q D cA a0 bs vZ L xs me z0 s0 pc ls st M := by
  obtain ⟨op, a, b, d, cc, ee⟩ := i
  simp only [ej_mt, Bool.and_eq_true, Bool.or_eq_true, decide_eq_true_eq] at hm
  rcases hm with ((((hm | hm) | hm) | hm) | hm) | hm
  · obtain ⟨eop, eln, c1, c2⟩ := hm
    have eop := Nat.eq_of_beq_eq_true eop
    subst eop
    have eln := Nat.eq_of_beq_eq_true eln
    subst eln
    replace h : (uR st fun o r => ckk (mC M o = a) (K (pc + 3) ls (.int (mI M o b) :: r) M)) = some r := h
    replace h := uR_some h
    obtain ⟨o, r1, rfl, h⟩ := h
    replace h := ckk_some h
    obtain ⟨k1, h⟩ := h
    exact sd_get (v := .int (mI M o b)) C hd c1 k1 (fv_int c2) (hK _ _ _ _ h)
  · obtain ⟨eop, eln, c1, c2⟩ := hm
    have eop := Nat.eq_of_beq_eq_true eop
    subst eop
    have eln := Nat.eq_of_beq_eq_true eln
    subst eln
    replace h : (uR st fun o r => ckk (mC M o = a) (K (pc + 3) ls (.long (mL M o b) :: r) M)) = some r := h
    replace h := uR_some h
    obtain ⟨o, r1, rfl, h⟩ := h
    replace h := ckk_some h
    obtain ⟨k1, h⟩ := h
    exact sd_get (v := .long (mL M o b)) C hd c1 k1 (fv_long c2) (hK _ _ _ _ h)
  · obtain ⟨eop, eln, c1, c2⟩ := hm
    have eop := Nat.eq_of_beq_eq_true eop
    subst eop
    have eln := Nat.eq_of_beq_eq_true eln
    subst eln
    replace h : (uR st fun o r => ckk (mC M o = a) (deQ (mR M o b) (K (pc + 3) ls (.null :: r) M) fun q => K (pc + 3) ls (.ref q :: r) M)) = some r := h
    replace h := uR_some h
    obtain ⟨o, r1, rfl, h⟩ := h
    replace h := ckk_some h
    obtain ⟨k1, h⟩ := h
    exact sd_get (v := va_rf (mR M o b)) C hd c1 k1 (fv_ref c2) (hK _ _ _ _ (deQ_rf (k := fun s1 => K (pc + 3) ls s1 M) h))
  · obtain ⟨eop, eln, c1, c2⟩ := hm
    have eop := Nat.eq_of_beq_eq_true eop
    subst eop
    have eln := Nat.eq_of_beq_eq_true eln
    subst eln
    replace h : (uR st fun o r => ckk (mC M o = a) (deR (mR M o b) fun q => K (pc + 3) ls (.ref q :: r) M)) = some r := h
    replace h := uR_some h
    obtain ⟨o, r1, rfl, h⟩ := h
    replace h := ckk_some h
    obtain ⟨k1, h⟩ := h
    replace h := deR_some h
    obtain ⟨q, hq, h⟩ := h
    exact sd_get (v := .ref q) C hd c1 k1 (by rw [fv_ref c2 (vZ := vZ), hq]; rfl) (hK _ _ _ _ h)
  · obtain ⟨eop, eln, c1, c2, c3⟩ := hm
    have eop := Nat.eq_of_beq_eq_true eop
    subst eop
    have eln := Nat.eq_of_beq_eq_true eln
    subst eln
    replace h : (uR st fun o r => ckk (mC M o = 10) (K (pc + 3) ls (.int (mI M o b) :: r) M)) = some r := h
    replace h := uR_some h
    obtain ⟨o, r1, rfl, h⟩ := h
    replace h := ckk_some h
    obtain ⟨k1, h⟩ := h
    have e1 := Nat.eq_of_beq_eq_true c1
    have e3 := Nat.eq_of_beq_eq_true c3
    subst e1
    subst e3
    exact sd_getIC C hd (Nat.eq_of_beq_eq_true c2) k1 (hK _ _ _ _ h)
  · obtain ⟨eop, eln, c1, c2, c3⟩ := hm
    have eop := Nat.eq_of_beq_eq_true eop
    subst eop
    have eln := Nat.eq_of_beq_eq_true eln
    subst eln
    replace h : (uR st fun o r => ckk (mC M o = 10) (deR (mR M o b) fun q => K (pc + 3) ls (.ref q :: r) M)) = some r := h
    replace h := uR_some h
    obtain ⟨o, r1, rfl, h⟩ := h
    replace h := ckk_some h
    obtain ⟨k1, h⟩ := h
    replace h := deR_some h
    obtain ⟨q, hq, h⟩ := h
    have e1 := Nat.eq_of_beq_eq_true c1
    have e3 := Nat.eq_of_beq_eq_true c3
    subst e1
    subst e3
    exact sd_getRC C hd (Nat.eq_of_beq_eq_true c2) k1 hq (hK _ _ _ _ h)
set_option maxHeartbeats 1000000 in
theorem so_60 (C : ej_Cx p s m args meth c D cA a0 bs vZ L xs me) {n : Nat} (hd : decode (ej_b me) pc = .ok (.putfield n, len)) (hm : ej_mt me pc len (.putfield n) i = true) (h : ej_stp ej_sw cl i pc len ls st M K = some r) (hK : ∀ pc ls st M, K pc ls st M = some r → ej_G p l e R s m args below meth c Q D cA a0 bs vZ L xs me z0 s0 pc ls st M) (hmo : ∀ pc ls st M, K pc ls st M = some r → mZ M ≤ mZ r.2 ∧ mS M ≤ mS r.2) (hRc : mZ r.2 - z0 ≤ R.cells ∧ mS r.2 - s0 ≤ R.slots) (hR : d0 + 1 ≤ R.frames ∧ 38 * (d0 + 1) ≤ R.locals) (hcl : ∀ m av M1 v M2, m < 221 → cl m av M1 = some (v, M2) → ej_Met l D cA a0 bs vZ L xs d0 m av M1 v M2 ∧ mZ M1 ≤ mZ M2 ∧ mS M1 ≤ mS M2) (hI : ∀ {pc a : Nat} {ls : ej_L} {v : Int32} {M : ej_Mem}, decode (ej_b me) pc = .ok (.ireturn, 1) → ej_rk (ej_rt me) a = true → ej_nar a v → some (some (.int v), M) = some r → ej_G p l e R s m args below meth c Q D cA a0 bs vZ L xs me z0 s0 pc ls [.int v] M) (hJ : ∀ {pc : Nat} {ls : ej_L} {v : Int64} {M : ej_Mem}, decode (ej_b me) pc = .ok (.lreturn, 1) → ej_rt me = some .long → some (some (.long v), M) = some r → ej_G p l e R s m args below meth c Q D cA a0 bs vZ L xs me z0 s0 pc ls [.long v] M) (hA : ∀ {pc : Nat} {ls : ej_L} {q : Option Nat} {M : ej_Mem}, decode (ej_b me) pc = .ok (.areturn, 1) → ej_rr (ej_rt me) = true → some (some (va_rf q), M) = some r → ej_G p l e R s m args below meth c Q D cA a0 bs vZ L xs me z0 s0 pc ls [va_rf q] M) (hV : ∀ {pc : Nat} {ls : ej_L} {M : ej_Mem}, decode (ej_b me) pc = .ok (.return_, 1) → ej_rt me = none → some (none, M) = some r → ej_G p l e R s m args below meth c Q D cA a0 bs vZ L xs me z0 s0 pc ls [] M) : ej_G p l e R s m args below meth c Q D cA a0 bs vZ L xs me z0 s0 pc ls st M := by
  obtain ⟨op, a, b, d, cc, ee⟩ := i
  simp only [ej_mt, Bool.and_eq_true, Bool.or_eq_true, decide_eq_true_eq] at hm
  rcases hm with ((hm | hm) | hm) | hm
  · obtain ⟨eop, eln, c1, c2, c3⟩ := hm
    have eop := Nat.eq_of_beq_eq_true eop
    subst eop
    have eln := Nat.eq_of_beq_eq_true eln
    subst eln
    replace h : (uI st fun v r => uR r fun o r => ckk (mC M o = a) (K (pc + 3) ls r (setI M o b v))) = some r := h
    replace h := uI_some h
    obtain ⟨x, r1, rfl, h⟩ := h
    replace h := uR_some h
    obtain ⟨o, r2, rfl, h⟩ := h
    replace h := ckk_some h
    obtain ⟨k1, h⟩ := h
    exact sd_putI C hd c1 (fin_ok c3) (Or.inl (Nat.eq_of_beq_eq_true c2)) k1 (hK _ _ _ _ h)
  · obtain ⟨eop, eln, c1, c2, c3⟩ := hm
    have eop := Nat.eq_of_beq_eq_true eop
    subst eop
    have eln := Nat.eq_of_beq_eq_true eln
    subst eln
    replace h : (uI st fun v r => uR r fun o r => ckk (mC M o = a) (ckk (v = 0 ∨ v = 1) (K (pc + 3) ls r (setI M o b v)))) = some r := h
    replace h := uI_some h
    obtain ⟨x, r1, rfl, h⟩ := h
    replace h := uR_some h
    obtain ⟨o, r2, rfl, h⟩ := h
    replace h := ckk_some h
    obtain ⟨k1, h⟩ := h
    replace h := ckk_some h
    obtain ⟨k2, h⟩ := h
    exact sd_putI C hd c1 (fin_ok c3) (Or.inr ⟨Nat.eq_of_beq_eq_true c2, k2⟩) k1 (hK _ _ _ _ h)
  · obtain ⟨eop, eln, c1, c2, c3⟩ := hm
    have eop := Nat.eq_of_beq_eq_true eop
    subst eop
    have eln := Nat.eq_of_beq_eq_true eln
    subst eln
    replace h : (uL st fun v r => uR r fun o r => ckk (mC M o = a) (K (pc + 3) ls r (setL M o b v))) = some r := h
    replace h := uL_some h
    obtain ⟨x, r1, rfl, h⟩ := h
    replace h := uR_some h
    obtain ⟨o, r2, rfl, h⟩ := h
    replace h := ckk_some h
    obtain ⟨k1, h⟩ := h
    exact sd_putL C hd c1 (fin_ok c3) (Nat.eq_of_beq_eq_true c2) k1 (hK _ _ _ _ h)
  · obtain ⟨eop, eln, c1, c2, c3⟩ := hm
    have eop := Nat.eq_of_beq_eq_true eop
    subst eop
    have eln := Nat.eq_of_beq_eq_true eln
    subst eln
    replace h : (uQ st fun v r => uR r fun o r => ckk (mC M o = a) (K (pc + 3) ls r (setR M o b v))) = some r := h
    replace h := uQ_some h
    obtain ⟨q, r1, rfl, h⟩ := h
    replace h := uR_some h
    obtain ⟨o, r2, rfl, h⟩ := h
    replace h := ckk_some h
    obtain ⟨k1, h⟩ := h
    exact sd_putR C hd c1 (fin_ok c3) (Nat.eq_of_beq_eq_true c2) k1 (hK _ _ _ _ h)
set_option maxHeartbeats 1000000 in
theorem so_61 (C : ej_Cx p s m args meth c D cA a0 bs vZ L xs me)  (hd : decode (ej_b me) pc = .ok (.iaload, len)) (hm : ej_mt me pc len (.iaload) i = true) (h : ej_stp ej_sw cl i pc len ls st M K = some r) (hK : ∀ pc ls st M, K pc ls st M = some r → ej_G p l e R s m args below meth c Q D cA a0 bs vZ L xs me z0 s0 pc ls st M) (hmo : ∀ pc ls st M, K pc ls st M = some r → mZ M ≤ mZ r.2 ∧ mS M ≤ mS r.2) (hRc : mZ r.2 - z0 ≤ R.cells ∧ mS r.2 - s0 ≤ R.slots) (hR : d0 + 1 ≤ R.frames ∧ 38 * (d0 + 1) ≤ R.locals) (hcl : ∀ m av M1 v M2, m < 221 → cl m av M1 = some (v, M2) → ej_Met l D cA a0 bs vZ L xs d0 m av M1 v M2 ∧ mZ M1 ≤ mZ M2 ∧ mS M1 ≤ mS M2) (hI : ∀ {pc a : Nat} {ls : ej_L} {v : Int32} {M : ej_Mem}, decode (ej_b me) pc = .ok (.ireturn, 1) → ej_rk (ej_rt me) a = true → ej_nar a v → some (some (.int v), M) = some r → ej_G p l e R s m args below meth c Q D cA a0 bs vZ L xs me z0 s0 pc ls [.int v] M) (hJ : ∀ {pc : Nat} {ls : ej_L} {v : Int64} {M : ej_Mem}, decode (ej_b me) pc = .ok (.lreturn, 1) → ej_rt me = some .long → some (some (.long v), M) = some r → ej_G p l e R s m args below meth c Q D cA a0 bs vZ L xs me z0 s0 pc ls [.long v] M) (hA : ∀ {pc : Nat} {ls : ej_L} {q : Option Nat} {M : ej_Mem}, decode (ej_b me) pc = .ok (.areturn, 1) → ej_rr (ej_rt me) = true → some (some (va_rf q), M) = some r → ej_G p l e R s m args below meth c Q D cA a0 bs vZ L xs me z0 s0 pc ls [va_rf q] M) (hV : ∀ {pc : Nat} {ls : ej_L} {M : ej_Mem}, decode (ej_b me) pc = .ok (.return_, 1) → ej_rt me = none → some (none, M) = some r → ej_G p l e R s m args below meth c Q D cA a0 bs vZ L xs me z0 s0 pc ls [] M) : ej_G p l e R s m args below meth c Q D cA a0 bs vZ L xs me z0 s0 pc ls st M := by
  obtain ⟨op, a, b, d, cc, ee⟩ := i
  simp only [ej_mt, Bool.and_eq_true, Bool.or_eq_true, decide_eq_true_eq] at hm
  rcases hm with hm | hm
  · obtain ⟨eop, eln⟩ := hm
    have eop := Nat.eq_of_beq_eq_true eop
    subst eop
    have eln := Nat.eq_of_beq_eq_true eln
    subst eln
    replace h : (uI st fun j r => uR r fun o r => ckk (mC M o = 100) (ckb j (mN M o) (K (pc + 1) ls (.int (aI M o j.toNatClampNeg) :: r) M))) = some r := h
    replace h := uI_some h
    obtain ⟨j, r1, rfl, h⟩ := h
    replace h := uR_some h
    obtain ⟨o, r2, rfl, h⟩ := h
    replace h := ckk_some h
    obtain ⟨k1, h⟩ := h
    replace h := ckk_some h
    obtain ⟨⟨k2, k3⟩, h⟩ := h
    exact sd_iaload C hd k1 k2 k3 (hK _ _ _ _ h)
  · obtain ⟨eop, eln⟩ := hm
    have eop := Nat.eq_of_beq_eq_true eop
    subst eop
    have eln := Nat.eq_of_beq_eq_true eln
    subst eln
    replace h : (uI st fun j r => uR r fun o r => ckk (mC M o = 110) (ckb j (mN M o) (K (pc + 1) ls (.int (aI M o j.toNatClampNeg) :: r) M))) = some r := h
    replace h := uI_some h
    obtain ⟨j, r1, rfl, h⟩ := h
    replace h := uR_some h
    obtain ⟨o, r2, rfl, h⟩ := h
    replace h := ckk_some h
    obtain ⟨k1, h⟩ := h
    replace h := ckk_some h
    obtain ⟨⟨k2, k3⟩, h⟩ := h
    exact sd_ialoadC C hd k1 k2 k3 (hK _ _ _ _ h)
set_option maxHeartbeats 1000000 in
theorem so_62 (C : ej_Cx p s m args meth c D cA a0 bs vZ L xs me)  (hd : decode (ej_b me) pc = .ok (.baload, len)) (hm : ej_mt me pc len (.baload) i = true) (h : ej_stp ej_sw cl i pc len ls st M K = some r) (hK : ∀ pc ls st M, K pc ls st M = some r → ej_G p l e R s m args below meth c Q D cA a0 bs vZ L xs me z0 s0 pc ls st M) (hmo : ∀ pc ls st M, K pc ls st M = some r → mZ M ≤ mZ r.2 ∧ mS M ≤ mS r.2) (hRc : mZ r.2 - z0 ≤ R.cells ∧ mS r.2 - s0 ≤ R.slots) (hR : d0 + 1 ≤ R.frames ∧ 38 * (d0 + 1) ≤ R.locals) (hcl : ∀ m av M1 v M2, m < 221 → cl m av M1 = some (v, M2) → ej_Met l D cA a0 bs vZ L xs d0 m av M1 v M2 ∧ mZ M1 ≤ mZ M2 ∧ mS M1 ≤ mS M2) (hI : ∀ {pc a : Nat} {ls : ej_L} {v : Int32} {M : ej_Mem}, decode (ej_b me) pc = .ok (.ireturn, 1) → ej_rk (ej_rt me) a = true → ej_nar a v → some (some (.int v), M) = some r → ej_G p l e R s m args below meth c Q D cA a0 bs vZ L xs me z0 s0 pc ls [.int v] M) (hJ : ∀ {pc : Nat} {ls : ej_L} {v : Int64} {M : ej_Mem}, decode (ej_b me) pc = .ok (.lreturn, 1) → ej_rt me = some .long → some (some (.long v), M) = some r → ej_G p l e R s m args below meth c Q D cA a0 bs vZ L xs me z0 s0 pc ls [.long v] M) (hA : ∀ {pc : Nat} {ls : ej_L} {q : Option Nat} {M : ej_Mem}, decode (ej_b me) pc = .ok (.areturn, 1) → ej_rr (ej_rt me) = true → some (some (va_rf q), M) = some r → ej_G p l e R s m args below meth c Q D cA a0 bs vZ L xs me z0 s0 pc ls [va_rf q] M) (hV : ∀ {pc : Nat} {ls : ej_L} {M : ej_Mem}, decode (ej_b me) pc = .ok (.return_, 1) → ej_rt me = none → some (none, M) = some r → ej_G p l e R s m args below meth c Q D cA a0 bs vZ L xs me z0 s0 pc ls [] M) : ej_G p l e R s m args below meth c Q D cA a0 bs vZ L xs me z0 s0 pc ls st M := by
  obtain ⟨op, a, b, d, cc, ee⟩ := i
  simp only [ej_mt, Bool.and_eq_true, Bool.or_eq_true, decide_eq_true_eq] at hm
  rcases hm with hm | hm
  · obtain ⟨eop, eln, c1⟩ := hm
    have eop := Nat.eq_of_beq_eq_true eop
    subst eop
    have eln := Nat.eq_of_beq_eq_true eln
    subst eln
    replace h : (uI st fun j r => uR r fun o r => ckk (mC M o = a) (ckb j (mN M o) (K (pc + 1) ls (.int (aI M o j.toNatClampNeg) :: r) M))) = some r := h
    replace h := uI_some h
    obtain ⟨j, r1, rfl, h⟩ := h
    replace h := uR_some h
    obtain ⟨o, r2, rfl, h⟩ := h
    replace h := ckk_some h
    obtain ⟨k1, h⟩ := h
    replace h := ckk_some h
    obtain ⟨⟨k2, k3⟩, h⟩ := h
    rcases or_nat c1 with e1 | e1
    · exact sd_baload1 C hd (k1.trans e1) k2 k3 (hK _ _ _ _ h)
    · exact sd_baload2 C hd (k1.trans e1) k2 k3 (hK _ _ _ _ h)
  · obtain ⟨eop, eln⟩ := hm
    have eop := Nat.eq_of_beq_eq_true eop
    subst eop
    have eln := Nat.eq_of_beq_eq_true eln
    subst eln
    replace h : (uI st fun j r => uR r fun o r => ckk (mC M o = 111) (ckb j (mN M o) (K (pc + 1) ls (.int (aI M o j.toNatClampNeg) :: r) M))) = some r := h
    replace h := uI_some h
    obtain ⟨j, r1, rfl, h⟩ := h
    replace h := uR_some h
    obtain ⟨o, r2, rfl, h⟩ := h
    replace h := ckk_some h
    obtain ⟨k1, h⟩ := h
    replace h := ckk_some h
    obtain ⟨⟨k2, k3⟩, h⟩ := h
    exact sd_baloadC C hd k1 k2 k3 (hK _ _ _ _ h)
set_option maxHeartbeats 1000000 in
theorem so_63 (C : ej_Cx p s m args meth c D cA a0 bs vZ L xs me)  (hd : decode (ej_b me) pc = .ok (.aaload, len)) (hm : ej_mt me pc len (.aaload) i = true) (h : ej_stp ej_sw cl i pc len ls st M K = some r) (hK : ∀ pc ls st M, K pc ls st M = some r → ej_G p l e R s m args below meth c Q D cA a0 bs vZ L xs me z0 s0 pc ls st M) (hmo : ∀ pc ls st M, K pc ls st M = some r → mZ M ≤ mZ r.2 ∧ mS M ≤ mS r.2) (hRc : mZ r.2 - z0 ≤ R.cells ∧ mS r.2 - s0 ≤ R.slots) (hR : d0 + 1 ≤ R.frames ∧ 38 * (d0 + 1) ≤ R.locals) (hcl : ∀ m av M1 v M2, m < 221 → cl m av M1 = some (v, M2) → ej_Met l D cA a0 bs vZ L xs d0 m av M1 v M2 ∧ mZ M1 ≤ mZ M2 ∧ mS M1 ≤ mS M2) (hI : ∀ {pc a : Nat} {ls : ej_L} {v : Int32} {M : ej_Mem}, decode (ej_b me) pc = .ok (.ireturn, 1) → ej_rk (ej_rt me) a = true → ej_nar a v → some (some (.int v), M) = some r → ej_G p l e R s m args below meth c Q D cA a0 bs vZ L xs me z0 s0 pc ls [.int v] M) (hJ : ∀ {pc : Nat} {ls : ej_L} {v : Int64} {M : ej_Mem}, decode (ej_b me) pc = .ok (.lreturn, 1) → ej_rt me = some .long → some (some (.long v), M) = some r → ej_G p l e R s m args below meth c Q D cA a0 bs vZ L xs me z0 s0 pc ls [.long v] M) (hA : ∀ {pc : Nat} {ls : ej_L} {q : Option Nat} {M : ej_Mem}, decode (ej_b me) pc = .ok (.areturn, 1) → ej_rr (ej_rt me) = true → some (some (va_rf q), M) = some r → ej_G p l e R s m args below meth c Q D cA a0 bs vZ L xs me z0 s0 pc ls [va_rf q] M) (hV : ∀ {pc : Nat} {ls : ej_L} {M : ej_Mem}, decode (ej_b me) pc = .ok (.return_, 1) → ej_rt me = none → some (none, M) = some r → ej_G p l e R s m args below meth c Q D cA a0 bs vZ L xs me z0 s0 pc ls [] M) : ej_G p l e R s m args below meth c Q D cA a0 bs vZ L xs me z0 s0 pc ls st M := by
  obtain ⟨op, a, b, d, cc, ee⟩ := i
  simp only [ej_mt, Bool.and_eq_true, Bool.or_eq_true, decide_eq_true_eq] at hm
  obtain ⟨eop, eln, c1⟩ := hm
  have eop := Nat.eq_of_beq_eq_true eop
  subst eop
  have eln := Nat.eq_of_beq_eq_true eln
  subst eln
  replace h : (uI st fun j r => uR r fun o r => ckk (mC M o = a) (ckb j (mN M o) (deQ (aR M o j.toNatClampNeg) (K (pc + 1) ls (.null :: r) M) fun q => K (pc + 1) ls (.ref q :: r) M))) = some r := h
  replace h := uI_some h
  obtain ⟨j, r1, rfl, h⟩ := h
  replace h := uR_some h
  obtain ⟨o, r2, rfl, h⟩ := h
  replace h := ckk_some h
  obtain ⟨k1, h⟩ := h
  replace h := ckk_some h
  obtain ⟨⟨k2, k3⟩, h⟩ := h
  exact sd_aaload C hd (or_nat c1) k1 k2 k3 (hK _ _ _ _ (deQ_rf (k := fun s1 => K (pc + 1) ls s1 M) h))
set_option maxHeartbeats 1000000 in
theorem so_64 (C : ej_Cx p s m args meth c D cA a0 bs vZ L xs me)  (hd : decode (ej_b me) pc = .ok (.iastore, len)) (hm : ej_mt me pc len (.iastore) i = true) (h : ej_stp ej_sw cl i pc len ls st M K = some r) (hK : ∀ pc ls st M, K pc ls st M = some r → ej_G p l e R s m args below meth c Q D cA a0 bs vZ L xs me z0 s0 pc ls st M) (hmo : ∀ pc ls st M, K pc ls st M = some r → mZ M ≤ mZ r.2 ∧ mS M ≤ mS r.2) (hRc : mZ r.2 - z0 ≤ R.cells ∧ mS r.2 - s0 ≤ R.slots) (hR : d0 + 1 ≤ R.frames ∧ 38 * (d0 + 1) ≤ R.locals) (hcl : ∀ m av M1 v M2, m < 221 → cl m av M1 = some (v, M2) → ej_Met l D cA a0 bs vZ L xs d0 m av M1 v M2 ∧ mZ M1 ≤ mZ M2 ∧ mS M1 ≤ mS M2) (hI : ∀ {pc a : Nat} {ls : ej_L} {v : Int32} {M : ej_Mem}, decode (ej_b me) pc = .ok (.ireturn, 1) → ej_rk (ej_rt me) a = true → ej_nar a v → some (some (.int v), M) = some r → ej_G p l e R s m args below meth c Q D cA a0 bs vZ L xs me z0 s0 pc ls [.int v] M) (hJ : ∀ {pc : Nat} {ls : ej_L} {v : Int64} {M : ej_Mem}, decode (ej_b me) pc = .ok (.lreturn, 1) → ej_rt me = some .long → some (some (.long v), M) = some r → ej_G p l e R s m args below meth c Q D cA a0 bs vZ L xs me z0 s0 pc ls [.long v] M) (hA : ∀ {pc : Nat} {ls : ej_L} {q : Option Nat} {M : ej_Mem}, decode (ej_b me) pc = .ok (.areturn, 1) → ej_rr (ej_rt me) = true → some (some (va_rf q), M) = some r → ej_G p l e R s m args below meth c Q D cA a0 bs vZ L xs me z0 s0 pc ls [va_rf q] M) (hV : ∀ {pc : Nat} {ls : ej_L} {M : ej_Mem}, decode (ej_b me) pc = .ok (.return_, 1) → ej_rt me = none → some (none, M) = some r → ej_G p l e R s m args below meth c Q D cA a0 bs vZ L xs me z0 s0 pc ls [] M) : ej_G p l e R s m args below meth c Q D cA a0 bs vZ L xs me z0 s0 pc ls st M := by
  obtain ⟨op, a, b, d, cc, ee⟩ := i
  simp only [ej_mt, Bool.and_eq_true, Bool.or_eq_true, decide_eq_true_eq] at hm
  obtain ⟨eop, eln⟩ := hm
  have eop := Nat.eq_of_beq_eq_true eop
  subst eop
  have eln := Nat.eq_of_beq_eq_true eln
  subst eln
  replace h : (uI st fun x r => uI r fun j r => uR r fun o r => ckk (mC M o = 100) (ckb j (mN M o) (K (pc + 1) ls r (setA M o j.toNatClampNeg x)))) = some r := h
  replace h := uI_some h
  obtain ⟨x, r0, rfl, h⟩ := h
  replace h := uI_some h
  obtain ⟨j, r1, rfl, h⟩ := h
  replace h := uR_some h
  obtain ⟨o, r2, rfl, h⟩ := h
  replace h := ckk_some h
  obtain ⟨k1, h⟩ := h
  replace h := ckk_some h
  obtain ⟨⟨k2, k3⟩, h⟩ := h
  exact sd_iastore C hd k1 k2 k3 (hK _ _ _ _ h)
set_option maxHeartbeats 1000000 in
theorem so_65 (C : ej_Cx p s m args meth c D cA a0 bs vZ L xs me)  (hd : decode (ej_b me) pc = .ok (.bastore, len)) (hm : ej_mt me pc len (.bastore) i = true) (h : ej_stp ej_sw cl i pc len ls st M K = some r) (hK : ∀ pc ls st M, K pc ls st M = some r → ej_G p l e R s m args below meth c Q D cA a0 bs vZ L xs me z0 s0 pc ls st M) (hmo : ∀ pc ls st M, K pc ls st M = some r → mZ M ≤ mZ r.2 ∧ mS M ≤ mS r.2) (hRc : mZ r.2 - z0 ≤ R.cells ∧ mS r.2 - s0 ≤ R.slots) (hR : d0 + 1 ≤ R.frames ∧ 38 * (d0 + 1) ≤ R.locals) (hcl : ∀ m av M1 v M2, m < 221 → cl m av M1 = some (v, M2) → ej_Met l D cA a0 bs vZ L xs d0 m av M1 v M2 ∧ mZ M1 ≤ mZ M2 ∧ mS M1 ≤ mS M2) (hI : ∀ {pc a : Nat} {ls : ej_L} {v : Int32} {M : ej_Mem}, decode (ej_b me) pc = .ok (.ireturn, 1) → ej_rk (ej_rt me) a = true → ej_nar a v → some (some (.int v), M) = some r → ej_G p l e R s m args below meth c Q D cA a0 bs vZ L xs me z0 s0 pc ls [.int v] M) (hJ : ∀ {pc : Nat} {ls : ej_L} {v : Int64} {M : ej_Mem}, decode (ej_b me) pc = .ok (.lreturn, 1) → ej_rt me = some .long → some (some (.long v), M) = some r → ej_G p l e R s m args below meth c Q D cA a0 bs vZ L xs me z0 s0 pc ls [.long v] M) (hA : ∀ {pc : Nat} {ls : ej_L} {q : Option Nat} {M : ej_Mem}, decode (ej_b me) pc = .ok (.areturn, 1) → ej_rr (ej_rt me) = true → some (some (va_rf q), M) = some r → ej_G p l e R s m args below meth c Q D cA a0 bs vZ L xs me z0 s0 pc ls [va_rf q] M) (hV : ∀ {pc : Nat} {ls : ej_L} {M : ej_Mem}, decode (ej_b me) pc = .ok (.return_, 1) → ej_rt me = none → some (none, M) = some r → ej_G p l e R s m args below meth c Q D cA a0 bs vZ L xs me z0 s0 pc ls [] M) : ej_G p l e R s m args below meth c Q D cA a0 bs vZ L xs me z0 s0 pc ls st M := by
  obtain ⟨op, a, b, d, cc, ee⟩ := i
  simp only [ej_mt, Bool.and_eq_true, Bool.or_eq_true, decide_eq_true_eq] at hm
  obtain ⟨eop, eln, c1⟩ := hm
  have eop := Nat.eq_of_beq_eq_true eop
  subst eop
  have eln := Nat.eq_of_beq_eq_true eln
  subst eln
  replace h : (uI st fun x r => uI r fun j r => uR r fun o r => ckk (mC M o = a) (ckb j (mN M o) (K (pc + 1) ls r (setA M o j.toNatClampNeg (vp_nar (ej_bt a) x))))) = some r := h
  replace h := uI_some h
  obtain ⟨x, r0, rfl, h⟩ := h
  replace h := uI_some h
  obtain ⟨j, r1, rfl, h⟩ := h
  replace h := uR_some h
  obtain ⟨o, r2, rfl, h⟩ := h
  replace h := ckk_some h
  obtain ⟨k1, h⟩ := h
  replace h := ckk_some h
  obtain ⟨⟨k2, k3⟩, h⟩ := h
  rcases or_nat c1 with e1 | e1
  · subst e1; exact sd_bastore1 C hd k1 k2 k3 (hK _ _ _ _ h)
  · subst e1; exact sd_bastore2 C hd k1 k2 k3 (hK _ _ _ _ h)
set_option maxHeartbeats 1000000 in
theorem so_66 (C : ej_Cx p s m args meth c D cA a0 bs vZ L xs me)  (hd : decode (ej_b me) pc = .ok (.aastore, len)) (hm : ej_mt me pc len (.aastore) i = true) (h : ej_stp ej_sw cl i pc len ls st M K = some r) (hK : ∀ pc ls st M, K pc ls st M = some r → ej_G p l e R s m args below meth c Q D cA a0 bs vZ L xs me z0 s0 pc ls st M) (hmo : ∀ pc ls st M, K pc ls st M = some r → mZ M ≤ mZ r.2 ∧ mS M ≤ mS r.2) (hRc : mZ r.2 - z0 ≤ R.cells ∧ mS r.2 - s0 ≤ R.slots) (hR : d0 + 1 ≤ R.frames ∧ 38 * (d0 + 1) ≤ R.locals) (hcl : ∀ m av M1 v M2, m < 221 → cl m av M1 = some (v, M2) → ej_Met l D cA a0 bs vZ L xs d0 m av M1 v M2 ∧ mZ M1 ≤ mZ M2 ∧ mS M1 ≤ mS M2) (hI : ∀ {pc a : Nat} {ls : ej_L} {v : Int32} {M : ej_Mem}, decode (ej_b me) pc = .ok (.ireturn, 1) → ej_rk (ej_rt me) a = true → ej_nar a v → some (some (.int v), M) = some r → ej_G p l e R s m args below meth c Q D cA a0 bs vZ L xs me z0 s0 pc ls [.int v] M) (hJ : ∀ {pc : Nat} {ls : ej_L} {v : Int64} {M : ej_Mem}, decode (ej_b me) pc = .ok (.lreturn, 1) → ej_rt me = some .long → some (some (.long v), M) = some r → ej_G p l e R s m args below meth c Q D cA a0 bs vZ L xs me z0 s0 pc ls [.long v] M) (hA : ∀ {pc : Nat} {ls : ej_L} {q : Option Nat} {M : ej_Mem}, decode (ej_b me) pc = .ok (.areturn, 1) → ej_rr (ej_rt me) = true → some (some (va_rf q), M) = some r → ej_G p l e R s m args below meth c Q D cA a0 bs vZ L xs me z0 s0 pc ls [va_rf q] M) (hV : ∀ {pc : Nat} {ls : ej_L} {M : ej_Mem}, decode (ej_b me) pc = .ok (.return_, 1) → ej_rt me = none → some (none, M) = some r → ej_G p l e R s m args below meth c Q D cA a0 bs vZ L xs me z0 s0 pc ls [] M) : ej_G p l e R s m args below meth c Q D cA a0 bs vZ L xs me z0 s0 pc ls st M := by
  obtain ⟨op, a, b, d, cc, ee⟩ := i
  simp only [ej_mt, Bool.and_eq_true, Bool.or_eq_true, decide_eq_true_eq] at hm
  obtain ⟨eop, eln, c1⟩ := hm
  have eop := Nat.eq_of_beq_eq_true eop
  subst eop
  have eln := Nat.eq_of_beq_eq_true eln
  subst eln
  replace h : (uQ st fun q r => uI r fun j r => uR r fun o r => ckk (mC M o = a) (ckb j (mN M o) (ej_ckq M a q (K (pc + 1) ls r (setP M o j.toNatClampNeg q))))) = some r := h
  replace h := uQ_some h
  obtain ⟨q, r0, rfl, h⟩ := h
  replace h := uI_some h
  obtain ⟨j, r1, rfl, h⟩ := h
  replace h := uR_some h
  obtain ⟨o, r2, rfl, h⟩ := h
  replace h := ckk_some h
  obtain ⟨k1, h⟩ := h
  replace h := ckk_some h
  obtain ⟨⟨k2, k3⟩, h⟩ := h
  replace h := ckq_some h
  obtain ⟨k4, h⟩ := h
  exact sd_aastore C hd (or_nat c1) k1 k2 k3 k4 (hK _ _ _ _ h)
set_option maxHeartbeats 1000000 in
theorem so_67 (C : ej_Cx p s m args meth c D cA a0 bs vZ L xs me)  (hd : decode (ej_b me) pc = .ok (.arraylength, len)) (hm : ej_mt me pc len (.arraylength) i = true) (h : ej_stp ej_sw cl i pc len ls st M K = some r) (hK : ∀ pc ls st M, K pc ls st M = some r → ej_G p l e R s m args below meth c Q D cA a0 bs vZ L xs me z0 s0 pc ls st M) (hmo : ∀ pc ls st M, K pc ls st M = some r → mZ M ≤ mZ r.2 ∧ mS M ≤ mS r.2) (hRc : mZ r.2 - z0 ≤ R.cells ∧ mS r.2 - s0 ≤ R.slots) (hR : d0 + 1 ≤ R.frames ∧ 38 * (d0 + 1) ≤ R.locals) (hcl : ∀ m av M1 v M2, m < 221 → cl m av M1 = some (v, M2) → ej_Met l D cA a0 bs vZ L xs d0 m av M1 v M2 ∧ mZ M1 ≤ mZ M2 ∧ mS M1 ≤ mS M2) (hI : ∀ {pc a : Nat} {ls : ej_L} {v : Int32} {M : ej_Mem}, decode (ej_b me) pc = .ok (.ireturn, 1) → ej_rk (ej_rt me) a = true → ej_nar a v → some (some (.int v), M) = some r → ej_G p l e R s m args below meth c Q D cA a0 bs vZ L xs me z0 s0 pc ls [.int v] M) (hJ : ∀ {pc : Nat} {ls : ej_L} {v : Int64} {M : ej_Mem}, decode (ej_b me) pc = .ok (.lreturn, 1) → ej_rt me = some .long → some (some (.long v), M) = some r → ej_G p l e R s m args below meth c Q D cA a0 bs vZ L xs me z0 s0 pc ls [.long v] M) (hA : ∀ {pc : Nat} {ls : ej_L} {q : Option Nat} {M : ej_Mem}, decode (ej_b me) pc = .ok (.areturn, 1) → ej_rr (ej_rt me) = true → some (some (va_rf q), M) = some r → ej_G p l e R s m args below meth c Q D cA a0 bs vZ L xs me z0 s0 pc ls [va_rf q] M) (hV : ∀ {pc : Nat} {ls : ej_L} {M : ej_Mem}, decode (ej_b me) pc = .ok (.return_, 1) → ej_rt me = none → some (none, M) = some r → ej_G p l e R s m args below meth c Q D cA a0 bs vZ L xs me z0 s0 pc ls [] M) : ej_G p l e R s m args below meth c Q D cA a0 bs vZ L xs me z0 s0 pc ls st M := by
  obtain ⟨op, a, b, d, cc, ee⟩ := i
  simp only [ej_mt, Bool.and_eq_true, Bool.or_eq_true, decide_eq_true_eq] at hm
  rcases hm with hm | hm
  · obtain ⟨eop, eln⟩ := hm
    have eop := Nat.eq_of_beq_eq_true eop
    subst eop
    have eln := Nat.eq_of_beq_eq_true eln
    subst eln
    replace h : (uR st fun o r => ckk (100 ≤ mC M o ∧ mC M o ≤ 104) (K (pc + 1) ls (.int (Int32.ofNat (mN M o)) :: r) M)) = some r := h
    replace h := uR_some h
    obtain ⟨o, r1, rfl, h⟩ := h
    replace h := ckk_some h
    obtain ⟨k1, h⟩ := h
    exact sd_alen C hd k1 (hK _ _ _ _ h)
  · obtain ⟨eop, eln⟩ := hm
    have eop := Nat.eq_of_beq_eq_true eop
    subst eop
    have eln := Nat.eq_of_beq_eq_true eln
    subst eln
    replace h : (uR st fun o r => ckk (110 ≤ mC M o ∧ mC M o ≤ 111) (K (pc + 1) ls (.int (Int32.ofNat (mN M o)) :: r) M)) = some r := h
    replace h := uR_some h
    obtain ⟨o, r1, rfl, h⟩ := h
    replace h := ckk_some h
    obtain ⟨k1, h⟩ := h
    exact sd_alenC C hd k1 (hK _ _ _ _ h)
set_option maxHeartbeats 1000000 in
theorem so_68 (C : ej_Cx p s m args meth c D cA a0 bs vZ L xs me)  (hd : decode (ej_b me) pc = .ok (.newarray .int, len)) (hm : ej_mt me pc len (.newarray .int) i = true) (h : ej_stp ej_sw cl i pc len ls st M K = some r) (hK : ∀ pc ls st M, K pc ls st M = some r → ej_G p l e R s m args below meth c Q D cA a0 bs vZ L xs me z0 s0 pc ls st M) (hmo : ∀ pc ls st M, K pc ls st M = some r → mZ M ≤ mZ r.2 ∧ mS M ≤ mS r.2) (hRc : mZ r.2 - z0 ≤ R.cells ∧ mS r.2 - s0 ≤ R.slots) (hR : d0 + 1 ≤ R.frames ∧ 38 * (d0 + 1) ≤ R.locals) (hcl : ∀ m av M1 v M2, m < 221 → cl m av M1 = some (v, M2) → ej_Met l D cA a0 bs vZ L xs d0 m av M1 v M2 ∧ mZ M1 ≤ mZ M2 ∧ mS M1 ≤ mS M2) (hI : ∀ {pc a : Nat} {ls : ej_L} {v : Int32} {M : ej_Mem}, decode (ej_b me) pc = .ok (.ireturn, 1) → ej_rk (ej_rt me) a = true → ej_nar a v → some (some (.int v), M) = some r → ej_G p l e R s m args below meth c Q D cA a0 bs vZ L xs me z0 s0 pc ls [.int v] M) (hJ : ∀ {pc : Nat} {ls : ej_L} {v : Int64} {M : ej_Mem}, decode (ej_b me) pc = .ok (.lreturn, 1) → ej_rt me = some .long → some (some (.long v), M) = some r → ej_G p l e R s m args below meth c Q D cA a0 bs vZ L xs me z0 s0 pc ls [.long v] M) (hA : ∀ {pc : Nat} {ls : ej_L} {q : Option Nat} {M : ej_Mem}, decode (ej_b me) pc = .ok (.areturn, 1) → ej_rr (ej_rt me) = true → some (some (va_rf q), M) = some r → ej_G p l e R s m args below meth c Q D cA a0 bs vZ L xs me z0 s0 pc ls [va_rf q] M) (hV : ∀ {pc : Nat} {ls : ej_L} {M : ej_Mem}, decode (ej_b me) pc = .ok (.return_, 1) → ej_rt me = none → some (none, M) = some r → ej_G p l e R s m args below meth c Q D cA a0 bs vZ L xs me z0 s0 pc ls [] M) : ej_G p l e R s m args below meth c Q D cA a0 bs vZ L xs me z0 s0 pc ls st M := by
  obtain ⟨op, a, b, d, cc, ee⟩ := i
  simp only [ej_mt, Bool.and_eq_true, Bool.or_eq_true, decide_eq_true_eq] at hm
  obtain ⟨eop, eln, c1⟩ := hm
  have eop := Nat.eq_of_beq_eq_true eop
  subst eop
  have eln := Nat.eq_of_beq_eq_true eln
  subst eln
  replace h : (uI st fun n r => ckk (¬ n < 0 ∧ n.toNatClampNeg ≤ 67108864) (K (pc + 2) ls (.ref (mZ M) :: r) (newM M a n.toNatClampNeg n.toNatClampNeg))) = some r := h
  have e1 := Nat.eq_of_beq_eq_true c1
  subst e1
  replace h := uI_some h
  obtain ⟨x, r1, rfl, h⟩ := h
  replace h := ckk_some h
  obtain ⟨k1, h⟩ := h
  have hm1 := hmo _ _ _ _ h
  have hm2 : mZ M + 1 ≤ mZ r.2 ∧ mS M + x.toNatClampNeg ≤ mS r.2 := hm1
  exact sd_newarr C hd (Or.inl ⟨rfl, rfl⟩) k1.1 k1.2 ⟨by omega, by omega⟩ (hK _ _ _ _ h)
set_option maxHeartbeats 1000000 in
theorem so_69 (C : ej_Cx p s m args meth c D cA a0 bs vZ L xs me)  (hd : decode (ej_b me) pc = .ok (.newarray .byte, len)) (hm : ej_mt me pc len (.newarray .byte) i = true) (h : ej_stp ej_sw cl i pc len ls st M K = some r) (hK : ∀ pc ls st M, K pc ls st M = some r → ej_G p l e R s m args below meth c Q D cA a0 bs vZ L xs me z0 s0 pc ls st M) (hmo : ∀ pc ls st M, K pc ls st M = some r → mZ M ≤ mZ r.2 ∧ mS M ≤ mS r.2) (hRc : mZ r.2 - z0 ≤ R.cells ∧ mS r.2 - s0 ≤ R.slots) (hR : d0 + 1 ≤ R.frames ∧ 38 * (d0 + 1) ≤ R.locals) (hcl : ∀ m av M1 v M2, m < 221 → cl m av M1 = some (v, M2) → ej_Met l D cA a0 bs vZ L xs d0 m av M1 v M2 ∧ mZ M1 ≤ mZ M2 ∧ mS M1 ≤ mS M2) (hI : ∀ {pc a : Nat} {ls : ej_L} {v : Int32} {M : ej_Mem}, decode (ej_b me) pc = .ok (.ireturn, 1) → ej_rk (ej_rt me) a = true → ej_nar a v → some (some (.int v), M) = some r → ej_G p l e R s m args below meth c Q D cA a0 bs vZ L xs me z0 s0 pc ls [.int v] M) (hJ : ∀ {pc : Nat} {ls : ej_L} {v : Int64} {M : ej_Mem}, decode (ej_b me) pc = .ok (.lreturn, 1) → ej_rt me = some .long → some (some (.long v), M) = some r → ej_G p l e R s m args below meth c Q D cA a0 bs vZ L xs me z0 s0 pc ls [.long v] M) (hA : ∀ {pc : Nat} {ls : ej_L} {q : Option Nat} {M : ej_Mem}, decode (ej_b me) pc = .ok (.areturn, 1) → ej_rr (ej_rt me) = true → some (some (va_rf q), M) = some r → ej_G p l e R s m args below meth c Q D cA a0 bs vZ L xs me z0 s0 pc ls [va_rf q] M) (hV : ∀ {pc : Nat} {ls : ej_L} {M : ej_Mem}, decode (ej_b me) pc = .ok (.return_, 1) → ej_rt me = none → some (none, M) = some r → ej_G p l e R s m args below meth c Q D cA a0 bs vZ L xs me z0 s0 pc ls [] M) : ej_G p l e R s m args below meth c Q D cA a0 bs vZ L xs me z0 s0 pc ls st M := by
  obtain ⟨op, a, b, d, cc, ee⟩ := i
  simp only [ej_mt, Bool.and_eq_true, Bool.or_eq_true, decide_eq_true_eq] at hm
  obtain ⟨eop, eln, c1⟩ := hm
  have eop := Nat.eq_of_beq_eq_true eop
  subst eop
  have eln := Nat.eq_of_beq_eq_true eln
  subst eln
  replace h : (uI st fun n r => ckk (¬ n < 0 ∧ n.toNatClampNeg ≤ 67108864) (K (pc + 2) ls (.ref (mZ M) :: r) (newM M a n.toNatClampNeg n.toNatClampNeg))) = some r := h
  have e1 := Nat.eq_of_beq_eq_true c1
  subst e1
  replace h := uI_some h
  obtain ⟨x, r1, rfl, h⟩ := h
  replace h := ckk_some h
  obtain ⟨k1, h⟩ := h
  have hm1 := hmo _ _ _ _ h
  have hm2 : mZ M + 1 ≤ mZ r.2 ∧ mS M + x.toNatClampNeg ≤ mS r.2 := hm1
  exact sd_newarr C hd (Or.inr (Or.inl ⟨rfl, rfl⟩)) k1.1 k1.2 ⟨by omega, by omega⟩ (hK _ _ _ _ h)
set_option maxHeartbeats 1000000 in
theorem so_70 (C : ej_Cx p s m args meth c D cA a0 bs vZ L xs me)  (hd : decode (ej_b me) pc = .ok (.newarray .boolean, len)) (hm : ej_mt me pc len (.newarray .boolean) i = true) (h : ej_stp ej_sw cl i pc len ls st M K = some r) (hK : ∀ pc ls st M, K pc ls st M = some r → ej_G p l e R s m args below meth c Q D cA a0 bs vZ L xs me z0 s0 pc ls st M) (hmo : ∀ pc ls st M, K pc ls st M = some r → mZ M ≤ mZ r.2 ∧ mS M ≤ mS r.2) (hRc : mZ r.2 - z0 ≤ R.cells ∧ mS r.2 - s0 ≤ R.slots) (hR : d0 + 1 ≤ R.frames ∧ 38 * (d0 + 1) ≤ R.locals) (hcl : ∀ m av M1 v M2, m < 221 → cl m av M1 = some (v, M2) → ej_Met l D cA a0 bs vZ L xs d0 m av M1 v M2 ∧ mZ M1 ≤ mZ M2 ∧ mS M1 ≤ mS M2) (hI : ∀ {pc a : Nat} {ls : ej_L} {v : Int32} {M : ej_Mem}, decode (ej_b me) pc = .ok (.ireturn, 1) → ej_rk (ej_rt me) a = true → ej_nar a v → some (some (.int v), M) = some r → ej_G p l e R s m args below meth c Q D cA a0 bs vZ L xs me z0 s0 pc ls [.int v] M) (hJ : ∀ {pc : Nat} {ls : ej_L} {v : Int64} {M : ej_Mem}, decode (ej_b me) pc = .ok (.lreturn, 1) → ej_rt me = some .long → some (some (.long v), M) = some r → ej_G p l e R s m args below meth c Q D cA a0 bs vZ L xs me z0 s0 pc ls [.long v] M) (hA : ∀ {pc : Nat} {ls : ej_L} {q : Option Nat} {M : ej_Mem}, decode (ej_b me) pc = .ok (.areturn, 1) → ej_rr (ej_rt me) = true → some (some (va_rf q), M) = some r → ej_G p l e R s m args below meth c Q D cA a0 bs vZ L xs me z0 s0 pc ls [va_rf q] M) (hV : ∀ {pc : Nat} {ls : ej_L} {M : ej_Mem}, decode (ej_b me) pc = .ok (.return_, 1) → ej_rt me = none → some (none, M) = some r → ej_G p l e R s m args below meth c Q D cA a0 bs vZ L xs me z0 s0 pc ls [] M) : ej_G p l e R s m args below meth c Q D cA a0 bs vZ L xs me z0 s0 pc ls st M := by
  obtain ⟨op, a, b, d, cc, ee⟩ := i
  simp only [ej_mt, Bool.and_eq_true, Bool.or_eq_true, decide_eq_true_eq] at hm
  obtain ⟨eop, eln, c1⟩ := hm
  have eop := Nat.eq_of_beq_eq_true eop
  subst eop
  have eln := Nat.eq_of_beq_eq_true eln
  subst eln
  replace h : (uI st fun n r => ckk (¬ n < 0 ∧ n.toNatClampNeg ≤ 67108864) (K (pc + 2) ls (.ref (mZ M) :: r) (newM M a n.toNatClampNeg n.toNatClampNeg))) = some r := h
  have e1 := Nat.eq_of_beq_eq_true c1
  subst e1
  replace h := uI_some h
  obtain ⟨x, r1, rfl, h⟩ := h
  replace h := ckk_some h
  obtain ⟨k1, h⟩ := h
  have hm1 := hmo _ _ _ _ h
  have hm2 : mZ M + 1 ≤ mZ r.2 ∧ mS M + x.toNatClampNeg ≤ mS r.2 := hm1
  exact sd_newarr C hd (Or.inr (Or.inr ⟨rfl, rfl⟩)) k1.1 k1.2 ⟨by omega, by omega⟩ (hK _ _ _ _ h)
set_option maxHeartbeats 1000000 in
theorem so_71 (C : ej_Cx p s m args meth c D cA a0 bs vZ L xs me) {n : Nat} (hd : decode (ej_b me) pc = .ok (.anewarray n, len)) (hm : ej_mt me pc len (.anewarray n) i = true) (h : ej_stp ej_sw cl i pc len ls st M K = some r) (hK : ∀ pc ls st M, K pc ls st M = some r → ej_G p l e R s m args below meth c Q D cA a0 bs vZ L xs me z0 s0 pc ls st M) (hmo : ∀ pc ls st M, K pc ls st M = some r → mZ M ≤ mZ r.2 ∧ mS M ≤ mS r.2) (hRc : mZ r.2 - z0 ≤ R.cells ∧ mS r.2 - s0 ≤ R.slots) (hR : d0 + 1 ≤ R.frames ∧ 38 * (d0 + 1) ≤ R.locals) (hcl : ∀ m av M1 v M2, m < 221 → cl m av M1 = some (v, M2) → ej_Met l D cA a0 bs vZ L xs d0 m av M1 v M2 ∧ mZ M1 ≤ mZ M2 ∧ mS M1 ≤ mS M2) (hI : ∀ {pc a : Nat} {ls : ej_L} {v : Int32} {M : ej_Mem}, decode (ej_b me) pc = .ok (.ireturn, 1) → ej_rk (ej_rt me) a = true → ej_nar a v → some (some (.int v), M) = some r → ej_G p l e R s m args below meth c Q D cA a0 bs vZ L xs me z0 s0 pc ls [.int v] M) (hJ : ∀ {pc : Nat} {ls : ej_L} {v : Int64} {M : ej_Mem}, decode (ej_b me) pc = .ok (.lreturn, 1) → ej_rt me = some .long → some (some (.long v), M) = some r → ej_G p l e R s m args below meth c Q D cA a0 bs vZ L xs me z0 s0 pc ls [.long v] M) (hA : ∀ {pc : Nat} {ls : ej_L} {q : Option Nat} {M : ej_Mem}, decode (ej_b me) pc = .ok (.areturn, 1) → ej_rr (ej_rt me) = true → some (some (va_rf q), M) = some r → ej_G p l e R s m args below meth c Q D cA a0 bs vZ L xs me z0 s0 pc ls [va_rf q] M) (hV : ∀ {pc : Nat} {ls : ej_L} {M : ej_Mem}, decode (ej_b me) pc = .ok (.return_, 1) → ej_rt me = none → some (none, M) = some r → ej_G p l e R s m args below meth c Q D cA a0 bs vZ L xs me z0 s0 pc ls [] M) : ej_G p l e R s m args below meth c Q D cA a0 bs vZ L xs me z0 s0 pc ls st M := by
  obtain ⟨op, a, b, d, cc, ee⟩ := i
  simp only [ej_mt, Bool.and_eq_true, Bool.or_eq_true, decide_eq_true_eq] at hm
  obtain ⟨eop, eln, c1, c2⟩ := hm
  have eop := Nat.eq_of_beq_eq_true eop
  subst eop
  have eln := Nat.eq_of_beq_eq_true eln
  subst eln
  replace h : (uI st fun n r => ckk (¬ n < 0 ∧ n.toNatClampNeg ≤ 67108864) (K (pc + 3) ls (.ref (mZ M) :: r) (newM M a n.toNatClampNeg n.toNatClampNeg))) = some r := h
  replace h := uI_some h
  obtain ⟨x, r1, rfl, h⟩ := h
  replace h := ckk_some h
  obtain ⟨k1, h⟩ := h
  have hm1 := hmo _ _ _ _ h
  have hm2 : mZ M + 1 ≤ mZ r.2 ∧ mS M + x.toNatClampNeg ≤ mS r.2 := hm1
  exact sd_anewarr C hd (or_nat c1) c2 k1.1 k1.2 ⟨by omega, by omega⟩ (hK _ _ _ _ h)
set_option maxHeartbeats 1000000 in
theorem so_72 (C : ej_Cx p s m args meth c D cA a0 bs vZ L xs me) {n : Nat} (hd : decode (ej_b me) pc = .ok (.new n, len)) (hm : ej_mt me pc len (.new n) i = true) (h : ej_stp ej_sw cl i pc len ls st M K = some r) (hK : ∀ pc ls st M, K pc ls st M = some r → ej_G p l e R s m args below meth c Q D cA a0 bs vZ L xs me z0 s0 pc ls st M) (hmo : ∀ pc ls st M, K pc ls st M = some r → mZ M ≤ mZ r.2 ∧ mS M ≤ mS r.2) (hRc : mZ r.2 - z0 ≤ R.cells ∧ mS r.2 - s0 ≤ R.slots) (hR : d0 + 1 ≤ R.frames ∧ 38 * (d0 + 1) ≤ R.locals) (hcl : ∀ m av M1 v M2, m < 221 → cl m av M1 = some (v, M2) → ej_Met l D cA a0 bs vZ L xs d0 m av M1 v M2 ∧ mZ M1 ≤ mZ M2 ∧ mS M1 ≤ mS M2) (hI : ∀ {pc a : Nat} {ls : ej_L} {v : Int32} {M : ej_Mem}, decode (ej_b me) pc = .ok (.ireturn, 1) → ej_rk (ej_rt me) a = true → ej_nar a v → some (some (.int v), M) = some r → ej_G p l e R s m args below meth c Q D cA a0 bs vZ L xs me z0 s0 pc ls [.int v] M) (hJ : ∀ {pc : Nat} {ls : ej_L} {v : Int64} {M : ej_Mem}, decode (ej_b me) pc = .ok (.lreturn, 1) → ej_rt me = some .long → some (some (.long v), M) = some r → ej_G p l e R s m args below meth c Q D cA a0 bs vZ L xs me z0 s0 pc ls [.long v] M) (hA : ∀ {pc : Nat} {ls : ej_L} {q : Option Nat} {M : ej_Mem}, decode (ej_b me) pc = .ok (.areturn, 1) → ej_rr (ej_rt me) = true → some (some (va_rf q), M) = some r → ej_G p l e R s m args below meth c Q D cA a0 bs vZ L xs me z0 s0 pc ls [va_rf q] M) (hV : ∀ {pc : Nat} {ls : ej_L} {M : ej_Mem}, decode (ej_b me) pc = .ok (.return_, 1) → ej_rt me = none → some (none, M) = some r → ej_G p l e R s m args below meth c Q D cA a0 bs vZ L xs me z0 s0 pc ls [] M) : ej_G p l e R s m args below meth c Q D cA a0 bs vZ L xs me z0 s0 pc ls st M := by
  obtain ⟨op, a, b, d, cc, ee⟩ := i
  simp only [ej_mt, Bool.and_eq_true, Bool.or_eq_true, decide_eq_true_eq] at hm
  obtain ⟨eop, eln, c1, c2⟩ := hm
  have eop := Nat.eq_of_beq_eq_true eop
  subst eop
  have eln := Nat.eq_of_beq_eq_true eln
  subst eln
  replace h : (K (pc + 3) ls (.ref (mZ M) :: st) (newM M a 0 b)) = some r := h
  have e2 := Nat.eq_of_beq_eq_true c2
  subst e2
  have hm1 := hmo _ _ _ _ h
  have hm2 : mZ M + 1 ≤ mZ r.2 ∧ mS M + NN a ≤ mS r.2 := hm1
  exact sd_new C hd c1 ⟨by omega, by omega⟩ (hK _ _ _ _ h)
set_option maxHeartbeats 1000000 in
theorem so_73 (C : ej_Cx p s m args meth c D cA a0 bs vZ L xs me)  (hd : decode (ej_b me) pc = .ok (.ireturn, len)) (hm : ej_mt me pc len (.ireturn) i = true) (h : ej_stp ej_sw cl i pc len ls st M K = some r) (hK : ∀ pc ls st M, K pc ls st M = some r → ej_G p l e R s m args below meth c Q D cA a0 bs vZ L xs me z0 s0 pc ls st M) (hmo : ∀ pc ls st M, K pc ls st M = some r → mZ M ≤ mZ r.2 ∧ mS M ≤ mS r.2) (hRc : mZ r.2 - z0 ≤ R.cells ∧ mS r.2 - s0 ≤ R.slots) (hR : d0 + 1 ≤ R.frames ∧ 38 * (d0 + 1) ≤ R.locals) (hcl : ∀ m av M1 v M2, m < 221 → cl m av M1 = some (v, M2) → ej_Met l D cA a0 bs vZ L xs d0 m av M1 v M2 ∧ mZ M1 ≤ mZ M2 ∧ mS M1 ≤ mS M2) (hI : ∀ {pc a : Nat} {ls : ej_L} {v : Int32} {M : ej_Mem}, decode (ej_b me) pc = .ok (.ireturn, 1) → ej_rk (ej_rt me) a = true → ej_nar a v → some (some (.int v), M) = some r → ej_G p l e R s m args below meth c Q D cA a0 bs vZ L xs me z0 s0 pc ls [.int v] M) (hJ : ∀ {pc : Nat} {ls : ej_L} {v : Int64} {M : ej_Mem}, decode (ej_b me) pc = .ok (.lreturn, 1) → ej_rt me = some .long → some (some (.long v), M) = some r → ej_G p l e R s m args below meth c Q D cA a0 bs vZ L xs me z0 s0 pc ls [.long v] M) (hA : ∀ {pc : Nat} {ls : ej_L} {q : Option Nat} {M : ej_Mem}, decode (ej_b me) pc = .ok (.areturn, 1) → ej_rr (ej_rt me) = true → some (some (va_rf q), M) = some r → ej_G p l e R s m args below meth c Q D cA a0 bs vZ L xs me z0 s0 pc ls [va_rf q] M) (hV : ∀ {pc : Nat} {ls : ej_L} {M : ej_Mem}, decode (ej_b me) pc = .ok (.return_, 1) → ej_rt me = none → some (none, M) = some r → ej_G p l e R s m args below meth c Q D cA a0 bs vZ L xs me z0 s0 pc ls [] M) : ej_G p l e R s m args below meth c Q D cA a0 bs vZ L xs me z0 s0 pc ls st M := by
  obtain ⟨op, a, b, d, cc, ee⟩ := i
  simp only [ej_mt, Bool.and_eq_true, Bool.or_eq_true, decide_eq_true_eq] at hm
  obtain ⟨eop, eln, c1⟩ := hm
  have eop := Nat.eq_of_beq_eq_true eop
  subst eop
  have eln := Nat.eq_of_beq_eq_true eln
  subst eln
  replace h : (uI st fun v r1 => ckk (r1 = []) (ej_ckn a v (some (some (.int v), M)))) = some r := h
  replace h := uI_some h
  obtain ⟨x, r1, rfl, h⟩ := h
  replace h := ckk_some h
  obtain ⟨rfl, h⟩ := h
  replace h := ckn_some h
  obtain ⟨k2, h⟩ := h
  exact hI hd c1 k2 h
set_option maxHeartbeats 1000000 in
theorem so_74 (C : ej_Cx p s m args meth c D cA a0 bs vZ L xs me)  (hd : decode (ej_b me) pc = .ok (.lreturn, len)) (hm : ej_mt me pc len (.lreturn) i = true) (h : ej_stp ej_sw cl i pc len ls st M K = some r) (hK : ∀ pc ls st M, K pc ls st M = some r → ej_G p l e R s m args below meth c Q D cA a0 bs vZ L xs me z0 s0 pc ls st M) (hmo : ∀ pc ls st M, K pc ls st M = some r → mZ M ≤ mZ r.2 ∧ mS M ≤ mS r.2) (hRc : mZ r.2 - z0 ≤ R.cells ∧ mS r.2 - s0 ≤ R.slots) (hR : d0 + 1 ≤ R.frames ∧ 38 * (d0 + 1) ≤ R.locals) (hcl : ∀ m av M1 v M2, m < 221 → cl m av M1 = some (v, M2) → ej_Met l D cA a0 bs vZ L xs d0 m av M1 v M2 ∧ mZ M1 ≤ mZ M2 ∧ mS M1 ≤ mS M2) (hI : ∀ {pc a : Nat} {ls : ej_L} {v : Int32} {M : ej_Mem}, decode (ej_b me) pc = .ok (.ireturn, 1) → ej_rk (ej_rt me) a = true → ej_nar a v → some (some (.int v), M) = some r → ej_G p l e R s m args below meth c Q D cA a0 bs vZ L xs me z0 s0 pc ls [.int v] M) (hJ : ∀ {pc : Nat} {ls : ej_L} {v : Int64} {M : ej_Mem}, decode (ej_b me) pc = .ok (.lreturn, 1) → ej_rt me = some .long → some (some (.long v), M) = some r → ej_G p l e R s m args below meth c Q D cA a0 bs vZ L xs me z0 s0 pc ls [.long v] M) (hA : ∀ {pc : Nat} {ls : ej_L} {q : Option Nat} {M : ej_Mem}, decode (ej_b me) pc = .ok (.areturn, 1) → ej_rr (ej_rt me) = true → some (some (va_rf q), M) = some r → ej_G p l e R s m args below meth c Q D cA a0 bs vZ L xs me z0 s0 pc ls [va_rf q] M) (hV : ∀ {pc : Nat} {ls : ej_L} {M : ej_Mem}, decode (ej_b me) pc = .ok (.return_, 1) → ej_rt me = none → some (none, M) = some r → ej_G p l e R s m args below meth c Q D cA a0 bs vZ L xs me z0 s0 pc ls [] M) : ej_G p l e R s m args below meth c Q D cA a0 bs vZ L xs me z0 s0 pc ls st M := by
  obtain ⟨op, a, b, d, cc, ee⟩ := i
  simp only [ej_mt, Bool.and_eq_true, Bool.or_eq_true, decide_eq_true_eq] at hm
  obtain ⟨eop, eln, c1⟩ := hm
  have eop := Nat.eq_of_beq_eq_true eop
  subst eop
  have eln := Nat.eq_of_beq_eq_true eln
  subst eln
  replace h : (uL st fun v r1 => ckk (r1 = []) (some (some (.long v), M))) = some r := h
  replace h := uL_some h
  obtain ⟨x, r1, rfl, h⟩ := h
  replace h := ckk_some h
  obtain ⟨rfl, h⟩ := h
  exact hJ hd c1 h
set_option maxHeartbeats 1000000 in
theorem so_75 (C : ej_Cx p s m args meth c D cA a0 bs vZ L xs me)  (hd : decode (ej_b me) pc = .ok (.areturn, len)) (hm : ej_mt me pc len (.areturn) i = true) (h : ej_stp ej_sw cl i pc len ls st M K = some r) (hK : ∀ pc ls st M, K pc ls st M = some r → ej_G p l e R s m args below meth c Q D cA a0 bs vZ L xs me z0 s0 pc ls st M) (hmo : ∀ pc ls st M, K pc ls st M = some r → mZ M ≤ mZ r.2 ∧ mS M ≤ mS r.2) (hRc : mZ r.2 - z0 ≤ R.cells ∧ mS r.2 - s0 ≤ R.slots) (hR : d0 + 1 ≤ R.frames ∧ 38 * (d0 + 1) ≤ R.locals) (hcl : ∀ m av M1 v M2, m < 221 → cl m av M1 = some (v, M2) → ej_Met l D cA a0 bs vZ L xs d0 m av M1 v M2 ∧ mZ M1 ≤ mZ M2 ∧ mS M1 ≤ mS M2) (hI : ∀ {pc a : Nat} {ls : ej_L} {v : Int32} {M : ej_Mem}, decode (ej_b me) pc = .ok (.ireturn, 1) → ej_rk (ej_rt me) a = true → ej_nar a v → some (some (.int v), M) = some r → ej_G p l e R s m args below meth c Q D cA a0 bs vZ L xs me z0 s0 pc ls [.int v] M) (hJ : ∀ {pc : Nat} {ls : ej_L} {v : Int64} {M : ej_Mem}, decode (ej_b me) pc = .ok (.lreturn, 1) → ej_rt me = some .long → some (some (.long v), M) = some r → ej_G p l e R s m args below meth c Q D cA a0 bs vZ L xs me z0 s0 pc ls [.long v] M) (hA : ∀ {pc : Nat} {ls : ej_L} {q : Option Nat} {M : ej_Mem}, decode (ej_b me) pc = .ok (.areturn, 1) → ej_rr (ej_rt me) = true → some (some (va_rf q), M) = some r → ej_G p l e R s m args below meth c Q D cA a0 bs vZ L xs me z0 s0 pc ls [va_rf q] M) (hV : ∀ {pc : Nat} {ls : ej_L} {M : ej_Mem}, decode (ej_b me) pc = .ok (.return_, 1) → ej_rt me = none → some (none, M) = some r → ej_G p l e R s m args below meth c Q D cA a0 bs vZ L xs me z0 s0 pc ls [] M) : ej_G p l e R s m args below meth c Q D cA a0 bs vZ L xs me z0 s0 pc ls st M := by
  obtain ⟨op, a, b, d, cc, ee⟩ := i
  simp only [ej_mt, Bool.and_eq_true, Bool.or_eq_true, decide_eq_true_eq] at hm
  obtain ⟨eop, eln, c1⟩ := hm
  have eop := Nat.eq_of_beq_eq_true eop
  subst eop
  have eln := Nat.eq_of_beq_eq_true eln
  subst eln
  replace h : (uQ st fun v r1 => ckk (r1 = []) (some (some (va_rf v), M))) = some r := h
  replace h := uQ_some h
  obtain ⟨q, r1, rfl, h⟩ := h
  replace h := ckk_some h
  obtain ⟨rfl, h⟩ := h
  exact hA hd c1 h
set_option maxHeartbeats 1000000 in
theorem so_76 (C : ej_Cx p s m args meth c D cA a0 bs vZ L xs me)  (hd : decode (ej_b me) pc = .ok (.return_, len)) (hm : ej_mt me pc len (.return_) i = true) (h : ej_stp ej_sw cl i pc len ls st M K = some r) (hK : ∀ pc ls st M, K pc ls st M = some r → ej_G p l e R s m args below meth c Q D cA a0 bs vZ L xs me z0 s0 pc ls st M) (hmo : ∀ pc ls st M, K pc ls st M = some r → mZ M ≤ mZ r.2 ∧ mS M ≤ mS r.2) (hRc : mZ r.2 - z0 ≤ R.cells ∧ mS r.2 - s0 ≤ R.slots) (hR : d0 + 1 ≤ R.frames ∧ 38 * (d0 + 1) ≤ R.locals) (hcl : ∀ m av M1 v M2, m < 221 → cl m av M1 = some (v, M2) → ej_Met l D cA a0 bs vZ L xs d0 m av M1 v M2 ∧ mZ M1 ≤ mZ M2 ∧ mS M1 ≤ mS M2) (hI : ∀ {pc a : Nat} {ls : ej_L} {v : Int32} {M : ej_Mem}, decode (ej_b me) pc = .ok (.ireturn, 1) → ej_rk (ej_rt me) a = true → ej_nar a v → some (some (.int v), M) = some r → ej_G p l e R s m args below meth c Q D cA a0 bs vZ L xs me z0 s0 pc ls [.int v] M) (hJ : ∀ {pc : Nat} {ls : ej_L} {v : Int64} {M : ej_Mem}, decode (ej_b me) pc = .ok (.lreturn, 1) → ej_rt me = some .long → some (some (.long v), M) = some r → ej_G p l e R s m args below meth c Q D cA a0 bs vZ L xs me z0 s0 pc ls [.long v] M) (hA : ∀ {pc : Nat} {ls : ej_L} {q : Option Nat} {M : ej_Mem}, decode (ej_b me) pc = .ok (.areturn, 1) → ej_rr (ej_rt me) = true → some (some (va_rf q), M) = some r → ej_G p l e R s m args below meth c Q D cA a0 bs vZ L xs me z0 s0 pc ls [va_rf q] M) (hV : ∀ {pc : Nat} {ls : ej_L} {M : ej_Mem}, decode (ej_b me) pc = .ok (.return_, 1) → ej_rt me = none → some (none, M) = some r → ej_G p l e R s m args below meth c Q D cA a0 bs vZ L xs me z0 s0 pc ls [] M) : ej_G p l e R s m args below meth c Q D cA a0 bs vZ L xs me z0 s0 pc ls st M := by
  obtain ⟨op, a, b, d, cc, ee⟩ := i
  simp only [ej_mt, Bool.and_eq_true, Bool.or_eq_true, decide_eq_true_eq] at hm
  obtain ⟨eop, eln, c1⟩ := hm
  have eop := Nat.eq_of_beq_eq_true eop
  subst eop
  have eln := Nat.eq_of_beq_eq_true eln
  subst eln
  replace h : (ckk (st = []) (some (none, M))) = some r := h
  replace h := ckk_some h
  obtain ⟨rfl, h⟩ := h
  exact hV hd c1 h
set_option maxHeartbeats 1000000 in
theorem so_77 (C : ej_Cx p s m args meth c D cA a0 bs vZ L xs me) {n : Nat} (hd : decode (ej_b me) pc = .ok (.invokestatic n, len)) (hm : ej_mt me pc len (.invokestatic n) i = true) (h : ej_stp ej_sw cl i pc len ls st M K = some r) (hK : ∀ pc ls st M, K pc ls st M = some r → ej_G p l e R s m args below meth c Q D cA a0 bs vZ L xs me z0 s0 pc ls st M) (hmo : ∀ pc ls st M, K pc ls st M = some r → mZ M ≤ mZ r.2 ∧ mS M ≤ mS r.2) (hRc : mZ r.2 - z0 ≤ R.cells ∧ mS r.2 - s0 ≤ R.slots) (hR : d0 + 1 ≤ R.frames ∧ 38 * (d0 + 1) ≤ R.locals) (hcl : ∀ m av M1 v M2, m < 221 → cl m av M1 = some (v, M2) → ej_Met l D cA a0 bs vZ L xs d0 m av M1 v M2 ∧ mZ M1 ≤ mZ M2 ∧ mS M1 ≤ mS M2) (hI : ∀ {pc a : Nat} {ls : ej_L} {v : Int32} {M : ej_Mem}, decode (ej_b me) pc = .ok (.ireturn, 1) → ej_rk (ej_rt me) a = true → ej_nar a v → some (some (.int v), M) = some r → ej_G p l e R s m args below meth c Q D cA a0 bs vZ L xs me z0 s0 pc ls [.int v] M) (hJ : ∀ {pc : Nat} {ls : ej_L} {v : Int64} {M : ej_Mem}, decode (ej_b me) pc = .ok (.lreturn, 1) → ej_rt me = some .long → some (some (.long v), M) = some r → ej_G p l e R s m args below meth c Q D cA a0 bs vZ L xs me z0 s0 pc ls [.long v] M) (hA : ∀ {pc : Nat} {ls : ej_L} {q : Option Nat} {M : ej_Mem}, decode (ej_b me) pc = .ok (.areturn, 1) → ej_rr (ej_rt me) = true → some (some (va_rf q), M) = some r → ej_G p l e R s m args below meth c Q D cA a0 bs vZ L xs me z0 s0 pc ls [va_rf q] M) (hV : ∀ {pc : Nat} {ls : ej_L} {M : ej_Mem}, decode (ej_b me) pc = .ok (.return_, 1) → ej_rt me = none → some (none, M) = some r → ej_G p l e R s m args below meth c Q D cA a0 bs vZ L xs me z0 s0 pc ls [] M) : ej_G p l e R s m args below meth c Q D cA a0 bs vZ L xs me z0 s0 pc ls st M := by
  obtain ⟨op, a, b, d, cc, ee⟩ := i
  simp only [ej_mt, Bool.and_eq_true, Bool.or_eq_true, decide_eq_true_eq] at hm
  rcases hm with ((((hm | hm) | hm) | hm) | hm) | hm
  · obtain ⟨eop, eln, c1, c2, c3, c4⟩ := hm
    have eop := Nat.eq_of_beq_eq_true eop
    subst eop
    have eln := Nat.eq_of_beq_eq_true eln
    subst eln
    replace h : (ckk (b ≤ st.length ∧ ej_cats (st.drop b) ≤ 8) (bkV (cl a (st.take b).reverse M) (fun M1 => K (pc + 3) ls (st.drop b) M1))) = some r := h
    replace h := ckk_some h
    obtain ⟨k1, h⟩ := h
    replace h := bkV_some h
    obtain ⟨M2, hc, h⟩ := h
    obtain ⟨hMt, hle⟩ := hcl _ _ _ _ _ c3 hc
    have hm1 := hmo _ _ _ _ h
    have e4 := Nat.eq_of_beq_eq_true c4
    have hg := sd_static (v := none) (st := st.drop b) C hd c1 c2 c3 hMt hR (by rw [List.length_reverse, List.length_take]; omega) k1.2 hle ⟨by omega, by omega⟩ (hK _ _ _ _ h)
    rw [List.reverse_reverse, List.take_append_drop] at hg
    exact hg
  · obtain ⟨eop, eln, c1, c2, c3, c4⟩ := hm
    have eop := Nat.eq_of_beq_eq_true eop
    subst eop
    have eln := Nat.eq_of_beq_eq_true eln
    subst eln
    replace h : (ckk (b ≤ st.length ∧ ej_cats (st.drop b) ≤ 8) (bkI (cl a (st.take b).reverse M) (fun x M1 => K (pc + 3) ls (.int x :: st.drop b) M1))) = some r := h
    replace h := ckk_some h
    obtain ⟨k1, h⟩ := h
    replace h := bkI_some h
    obtain ⟨x, M2, hc, h⟩ := h
    obtain ⟨hMt, hle⟩ := hcl _ _ _ _ _ c3 hc
    have hm1 := hmo _ _ _ _ h
    have e4 := Nat.eq_of_beq_eq_true c4
    have hg := sd_static (v := (some (.int x))) (st := st.drop b) C hd c1 c2 c3 hMt hR (by rw [List.length_reverse, List.length_take]; omega) k1.2 hle ⟨by omega, by omega⟩ (hK _ _ _ _ h)
    rw [List.reverse_reverse, List.take_append_drop] at hg
    exact hg
  · obtain ⟨eop, eln, c1, c2, c3, c4⟩ := hm
    have eop := Nat.eq_of_beq_eq_true eop
    subst eop
    have eln := Nat.eq_of_beq_eq_true eln
    subst eln
    replace h : (ckk (b ≤ st.length ∧ ej_cats (st.drop b) ≤ 8) (bkJ (cl a (st.take b).reverse M) (fun x M1 => K (pc + 3) ls (.long x :: st.drop b) M1))) = some r := h
    replace h := ckk_some h
    obtain ⟨k1, h⟩ := h
    replace h := bkJ_some h
    obtain ⟨x, M2, hc, h⟩ := h
    obtain ⟨hMt, hle⟩ := hcl _ _ _ _ _ c3 hc
    have hm1 := hmo _ _ _ _ h
    have e4 := Nat.eq_of_beq_eq_true c4
    have hg := sd_static (v := (some (.long x))) (st := st.drop b) C hd c1 c2 c3 hMt hR (by rw [List.length_reverse, List.length_take]; omega) k1.2 hle ⟨by omega, by omega⟩ (hK _ _ _ _ h)
    rw [List.reverse_reverse, List.take_append_drop] at hg
    exact hg
  · obtain ⟨eop, eln, c1, c2, c3, c4⟩ := hm
    have eop := Nat.eq_of_beq_eq_true eop
    subst eop
    have eln := Nat.eq_of_beq_eq_true eln
    subst eln
    replace h : (ckk (b ≤ st.length ∧ ej_cats (st.drop b) ≤ 8) (bkQ (cl a (st.take b).reverse M) (fun M1 => K (pc + 3) ls (.null :: st.drop b) M1) (fun x M1 => K (pc + 3) ls (.ref x :: st.drop b) M1))) = some r := h
    replace h := ckk_some h
    obtain ⟨k1, h⟩ := h
    replace h := bkQ_some (k := fun v M1 => K (pc + 3) ls (v :: st.drop b) M1) h
    obtain ⟨q, M2, hc, h⟩ := h
    obtain ⟨hMt, hle⟩ := hcl _ _ _ _ _ c3 hc
    have hm1 := hmo _ _ _ _ h
    have e4 := Nat.eq_of_beq_eq_true c4
    have hg := sd_static (v := (some (va_rf q))) (st := st.drop b) C hd c1 c2 c3 hMt hR (by rw [List.length_reverse, List.length_take]; omega) k1.2 hle ⟨by omega, by omega⟩ (hK _ _ _ _ h)
    rw [List.reverse_reverse, List.take_append_drop] at hg
    exact hg
  · obtain ⟨eop, eln, c1⟩ := hm
    have eop := Nat.eq_of_beq_eq_true eop
    subst eop
    have eln := Nat.eq_of_beq_eq_true eln
    subst eln
    replace h : (uI st fun n r => uI r fun dp r => uR r fun o1 r => uI r fun sp r => uR r fun o0 r => ckk (mC M o0 = 100 ∧ mC M o1 = 100 ∧ ej_cats r ≤ 8) (ckk (¬ sp < 0 ∧ ¬ dp < 0 ∧ ¬ n < 0 ∧ sp.toNatClampNeg + n.toNatClampNeg ≤ mN M o0 ∧ dp.toNatClampNeg + n.toNatClampNeg ≤ mN M o1) (K (pc + 3) ls r (cpyM M o0 sp.toNatClampNeg o1 dp.toNatClampNeg n.toNatClampNeg)))) = some r := h
    replace h := uI_some h
    obtain ⟨n1, r1, rfl, h⟩ := h
    replace h := uI_some h
    obtain ⟨dp, r2, rfl, h⟩ := h
    replace h := uR_some h
    obtain ⟨o1, r3, rfl, h⟩ := h
    replace h := uI_some h
    obtain ⟨sp, r4, rfl, h⟩ := h
    replace h := uR_some h
    obtain ⟨o0, r5, rfl, h⟩ := h
    replace h := ckk_some h
    obtain ⟨k1, h⟩ := h
    replace h := ckk_some h
    obtain ⟨k2, h⟩ := h
    exact sd_acopy C hd c1 ⟨by omega, by omega⟩ k1.2.2 k1.1 k1.2.1 k2.1 k2.2.1 k2.2.2.1 k2.2.2.2.1 k2.2.2.2.2 (hK _ _ _ _ h)
  · obtain ⟨eop, eln, c1⟩ := hm
    have eop := Nat.eq_of_beq_eq_true eop
    subst eop
    have eln := Nat.eq_of_beq_eq_true eln
    subst eln
    replace h : (uI st fun y r => uI r fun x r => ckk (ej_cats r ≤ 8) (K (pc + 3) ls (.int (if y < x then y else x) :: r) M)) = some r := h
    replace h := uI_some h
    obtain ⟨y, r1, rfl, h⟩ := h
    replace h := uI_some h
    obtain ⟨x, r2, rfl, h⟩ := h
    replace h := ckk_some h
    obtain ⟨k1, h⟩ := h
    have hm1 := hmo _ _ _ _ h
    exact sd_min C hd c1 ⟨by omega, by omega⟩ k1 ⟨by omega, by omega⟩ (hK _ _ _ _ h)
set_option maxHeartbeats 1000000 in
theorem so_78 (C : ej_Cx p s m args meth c D cA a0 bs vZ L xs me) {n : Nat} (hd : decode (ej_b me) pc = .ok (.invokevirtual n, len)) (hm : ej_mt me pc len (.invokevirtual n) i = true) (h : ej_stp ej_sw cl i pc len ls st M K = some r) (hK : ∀ pc ls st M, K pc ls st M = some r → ej_G p l e R s m args below meth c Q D cA a0 bs vZ L xs me z0 s0 pc ls st M) (hmo : ∀ pc ls st M, K pc ls st M = some r → mZ M ≤ mZ r.2 ∧ mS M ≤ mS r.2) (hRc : mZ r.2 - z0 ≤ R.cells ∧ mS r.2 - s0 ≤ R.slots) (hR : d0 + 1 ≤ R.frames ∧ 38 * (d0 + 1) ≤ R.locals) (hcl : ∀ m av M1 v M2, m < 221 → cl m av M1 = some (v, M2) → ej_Met l D cA a0 bs vZ L xs d0 m av M1 v M2 ∧ mZ M1 ≤ mZ M2 ∧ mS M1 ≤ mS M2) (hI : ∀ {pc a : Nat} {ls : ej_L} {v : Int32} {M : ej_Mem}, decode (ej_b me) pc = .ok (.ireturn, 1) → ej_rk (ej_rt me) a = true → ej_nar a v → some (some (.int v), M) = some r → ej_G p l e R s m args below meth c Q D cA a0 bs vZ L xs me z0 s0 pc ls [.int v] M) (hJ : ∀ {pc : Nat} {ls : ej_L} {v : Int64} {M : ej_Mem}, decode (ej_b me) pc = .ok (.lreturn, 1) → ej_rt me = some .long → some (some (.long v), M) = some r → ej_G p l e R s m args below meth c Q D cA a0 bs vZ L xs me z0 s0 pc ls [.long v] M) (hA : ∀ {pc : Nat} {ls : ej_L} {q : Option Nat} {M : ej_Mem}, decode (ej_b me) pc = .ok (.areturn, 1) → ej_rr (ej_rt me) = true → some (some (va_rf q), M) = some r → ej_G p l e R s m args below meth c Q D cA a0 bs vZ L xs me z0 s0 pc ls [va_rf q] M) (hV : ∀ {pc : Nat} {ls : ej_L} {M : ej_Mem}, decode (ej_b me) pc = .ok (.return_, 1) → ej_rt me = none → some (none, M) = some r → ej_G p l e R s m args below meth c Q D cA a0 bs vZ L xs me z0 s0 pc ls [] M) : ej_G p l e R s m args below meth c Q D cA a0 bs vZ L xs me z0 s0 pc ls st M := by
  obtain ⟨op, a, b, d, cc, ee⟩ := i
  simp only [ej_mt, Bool.and_eq_true, Bool.or_eq_true, decide_eq_true_eq] at hm
  rcases hm with (((hm | hm) | hm) | hm) | hm
  · obtain ⟨eop, eln, c1, c2, c3, c4, c5, c6⟩ := hm
    have eop := Nat.eq_of_beq_eq_true eop
    subst eop
    have eln := Nat.eq_of_beq_eq_true eln
    subst eln
    replace h : (ckk (b < st.length ∧ ej_cats (st.drop (b + 1)) ≤ 8) (uR (st.drop b) fun o _ => ckk (mC M o = d) (bkV (cl a (st.take (b + 1)).reverse M) (fun M1 => K (pc + 3) ls (st.drop (b + 1)) M1)))) = some r := h
    replace h := ckk_some h
    obtain ⟨k1, h⟩ := h
    replace h := uR_some h
    obtain ⟨o, r1, hst, h⟩ := h
    replace h := ckk_some h
    obtain ⟨k2, h⟩ := h
    replace h := bkV_some h
    obtain ⟨M2, hc, h⟩ := h
    obtain ⟨hs1, hs2⟩ := stk_split hst
    rw [hs1] at hc
    obtain ⟨hMt, hle⟩ := hcl _ _ _ _ _ c3 hc
    have hm1 := hmo _ _ _ _ h
    have e4 := Nat.eq_of_beq_eq_true c4
    have hg := sd_virtual (v := none) (st := st.drop (b + 1)) C hd c1 c2 c3 k2 ⟨c5, Nat.eq_of_beq_eq_true c6⟩ hMt hR (by rw [List.length_reverse, List.length_take]; omega) k1.2 hle ⟨by omega, by omega⟩ (hK _ _ _ _ h)
    rw [List.reverse_reverse, hs2] at hg
    exact hg
  · obtain ⟨eop, eln, c1, c2, c3, c4, c5, c6⟩ := hm
    have eop := Nat.eq_of_beq_eq_true eop
    subst eop
    have eln := Nat.eq_of_beq_eq_true eln
    subst eln
    replace h : (ckk (b < st.length ∧ ej_cats (st.drop (b + 1)) ≤ 8) (uR (st.drop b) fun o _ => ckk (mC M o = d) (bkI (cl a (st.take (b + 1)).reverse M) (fun x M1 => K (pc + 3) ls (.int x :: st.drop (b + 1)) M1)))) = some r := h
    replace h := ckk_some h
    obtain ⟨k1, h⟩ := h
    replace h := uR_some h
    obtain ⟨o, r1, hst, h⟩ := h
    replace h := ckk_some h
    obtain ⟨k2, h⟩ := h
    replace h := bkI_some h
    obtain ⟨x, M2, hc, h⟩ := h
    obtain ⟨hs1, hs2⟩ := stk_split hst
    rw [hs1] at hc
    obtain ⟨hMt, hle⟩ := hcl _ _ _ _ _ c3 hc
    have hm1 := hmo _ _ _ _ h
    have e4 := Nat.eq_of_beq_eq_true c4
    have hg := sd_virtual (v := (some (.int x))) (st := st.drop (b + 1)) C hd c1 c2 c3 k2 ⟨c5, Nat.eq_of_beq_eq_true c6⟩ hMt hR (by rw [List.length_reverse, List.length_take]; omega) k1.2 hle ⟨by omega, by omega⟩ (hK _ _ _ _ h)
    rw [List.reverse_reverse, hs2] at hg
    exact hg
  · obtain ⟨eop, eln, c1, c2, c3, c4, c5, c6⟩ := hm
    have eop := Nat.eq_of_beq_eq_true eop
    subst eop
    have eln := Nat.eq_of_beq_eq_true eln
    subst eln
    replace h : (ckk (b < st.length ∧ ej_cats (st.drop (b + 1)) ≤ 8) (uR (st.drop b) fun o _ => ckk (mC M o = d) (bkJ (cl a (st.take (b + 1)).reverse M) (fun x M1 => K (pc + 3) ls (.long x :: st.drop (b + 1)) M1)))) = some r := h
    replace h := ckk_some h
    obtain ⟨k1, h⟩ := h
    replace h := uR_some h
    obtain ⟨o, r1, hst, h⟩ := h
    replace h := ckk_some h
    obtain ⟨k2, h⟩ := h
    replace h := bkJ_some h
    obtain ⟨x, M2, hc, h⟩ := h
    obtain ⟨hs1, hs2⟩ := stk_split hst
    rw [hs1] at hc
    obtain ⟨hMt, hle⟩ := hcl _ _ _ _ _ c3 hc
    have hm1 := hmo _ _ _ _ h
    have e4 := Nat.eq_of_beq_eq_true c4
    have hg := sd_virtual (v := (some (.long x))) (st := st.drop (b + 1)) C hd c1 c2 c3 k2 ⟨c5, Nat.eq_of_beq_eq_true c6⟩ hMt hR (by rw [List.length_reverse, List.length_take]; omega) k1.2 hle ⟨by omega, by omega⟩ (hK _ _ _ _ h)
    rw [List.reverse_reverse, hs2] at hg
    exact hg
  · obtain ⟨eop, eln, c1, c2, c3, c4, c5, c6⟩ := hm
    have eop := Nat.eq_of_beq_eq_true eop
    subst eop
    have eln := Nat.eq_of_beq_eq_true eln
    subst eln
    replace h : (ckk (b < st.length ∧ ej_cats (st.drop (b + 1)) ≤ 8) (uR (st.drop b) fun o _ => ckk (mC M o = d) (bkQ (cl a (st.take (b + 1)).reverse M) (fun M1 => K (pc + 3) ls (.null :: st.drop (b + 1)) M1) (fun x M1 => K (pc + 3) ls (.ref x :: st.drop (b + 1)) M1)))) = some r := h
    replace h := ckk_some h
    obtain ⟨k1, h⟩ := h
    replace h := uR_some h
    obtain ⟨o, r1, hst, h⟩ := h
    replace h := ckk_some h
    obtain ⟨k2, h⟩ := h
    replace h := bkQ_some (k := fun v M1 => K (pc + 3) ls (v :: st.drop (b + 1)) M1) h
    obtain ⟨q, M2, hc, h⟩ := h
    obtain ⟨hs1, hs2⟩ := stk_split hst
    rw [hs1] at hc
    obtain ⟨hMt, hle⟩ := hcl _ _ _ _ _ c3 hc
    have hm1 := hmo _ _ _ _ h
    have e4 := Nat.eq_of_beq_eq_true c4
    have hg := sd_virtual (v := (some (va_rf q))) (st := st.drop (b + 1)) C hd c1 c2 c3 k2 ⟨c5, Nat.eq_of_beq_eq_true c6⟩ hMt hR (by rw [List.length_reverse, List.length_take]; omega) k1.2 hle ⟨by omega, by omega⟩ (hK _ _ _ _ h)
    rw [List.reverse_reverse, hs2] at hg
    exact hg
  · obtain ⟨eop, eln, c1, c2⟩ := hm
    have eop := Nat.eq_of_beq_eq_true eop
    subst eop
    have eln := Nat.eq_of_beq_eq_true eln
    subst eln
    replace h : (uR st fun o r => ckk (mC M o = 100 ∧ ej_cats r ≤ 8) (K (pc + 3) ls (.ref (mZ M) :: r) (cloneM M o))) = some r := h
    replace h := uR_some h
    obtain ⟨o, r1, rfl, h⟩ := h
    replace h := ckk_some h
    obtain ⟨k1, h⟩ := h
    have hm1 := hmo _ _ _ _ h
    have hm2 : mZ M + 1 ≤ mZ r.2 ∧ mS M + mN M o ≤ mS r.2 := hm1
    have e1 := Nat.eq_of_beq_eq_true c1
    subst e1
    exact sd_clone C hd (Nat.eq_of_beq_eq_true c2) ⟨by omega, by omega⟩ k1.2 k1.1 ⟨by omega, by omega⟩ (hK _ _ _ _ h)
set_option maxHeartbeats 1000000 in
theorem so_79 (C : ej_Cx p s m args meth c D cA a0 bs vZ L xs me) {n : Nat} (hd : decode (ej_b me) pc = .ok (.invokespecial n, len)) (hm : ej_mt me pc len (.invokespecial n) i = true) (h : ej_stp ej_sw cl i pc len ls st M K = some r) (hK : ∀ pc ls st M, K pc ls st M = some r → ej_G p l e R s m args below meth c Q D cA a0 bs vZ L xs me z0 s0 pc ls st M) (hmo : ∀ pc ls st M, K pc ls st M = some r → mZ M ≤ mZ r.2 ∧ mS M ≤ mS r.2) (hRc : mZ r.2 - z0 ≤ R.cells ∧ mS r.2 - s0 ≤ R.slots) (hR : d0 + 1 ≤ R.frames ∧ 38 * (d0 + 1) ≤ R.locals) (hcl : ∀ m av M1 v M2, m < 221 → cl m av M1 = some (v, M2) → ej_Met l D cA a0 bs vZ L xs d0 m av M1 v M2 ∧ mZ M1 ≤ mZ M2 ∧ mS M1 ≤ mS M2) (hI : ∀ {pc a : Nat} {ls : ej_L} {v : Int32} {M : ej_Mem}, decode (ej_b me) pc = .ok (.ireturn, 1) → ej_rk (ej_rt me) a = true → ej_nar a v → some (some (.int v), M) = some r → ej_G p l e R s m args below meth c Q D cA a0 bs vZ L xs me z0 s0 pc ls [.int v] M) (hJ : ∀ {pc : Nat} {ls : ej_L} {v : Int64} {M : ej_Mem}, decode (ej_b me) pc = .ok (.lreturn, 1) → ej_rt me = some .long → some (some (.long v), M) = some r → ej_G p l e R s m args below meth c Q D cA a0 bs vZ L xs me z0 s0 pc ls [.long v] M) (hA : ∀ {pc : Nat} {ls : ej_L} {q : Option Nat} {M : ej_Mem}, decode (ej_b me) pc = .ok (.areturn, 1) → ej_rr (ej_rt me) = true → some (some (va_rf q), M) = some r → ej_G p l e R s m args below meth c Q D cA a0 bs vZ L xs me z0 s0 pc ls [va_rf q] M) (hV : ∀ {pc : Nat} {ls : ej_L} {M : ej_Mem}, decode (ej_b me) pc = .ok (.return_, 1) → ej_rt me = none → some (none, M) = some r → ej_G p l e R s m args below meth c Q D cA a0 bs vZ L xs me z0 s0 pc ls [] M) : ej_G p l e R s m args below meth c Q D cA a0 bs vZ L xs me z0 s0 pc ls st M := by
  obtain ⟨op, a, b, d, cc, ee⟩ := i
  simp only [ej_mt, Bool.and_eq_true, Bool.or_eq_true, decide_eq_true_eq] at hm
  rcases hm with hm | hm
  · obtain ⟨eop, eln, c1, c2, c3, c4⟩ := hm
    have eop := Nat.eq_of_beq_eq_true eop
    subst eop
    have eln := Nat.eq_of_beq_eq_true eln
    subst eln
    replace h : (ckk (b < st.length ∧ ej_cats (st.drop (b + 1)) ≤ 8) (uR (st.drop b) fun _ _ => bkV (cl a (st.take (b + 1)).reverse M) (fun M1 => K (pc + 3) ls (st.drop (b + 1)) M1))) = some r := h
    replace h := ckk_some h
    obtain ⟨k1, h⟩ := h
    replace h := uR_some h
    obtain ⟨o, r1, hst, h⟩ := h
    replace h := bkV_some h
    obtain ⟨M2, hc, h⟩ := h
    obtain ⟨hs1, hs2⟩ := stk_split hst
    rw [hs1] at hc
    obtain ⟨hMt, hle⟩ := hcl _ _ _ _ _ c3 hc
    have hm1 := hmo _ _ _ _ h
    have e4 := Nat.eq_of_beq_eq_true c4
    have hg := sd_special (v := none) (st := st.drop (b + 1)) C hd (by simpa using c1) c2 c3 hMt hR (by rw [List.length_reverse, List.length_take]; omega) k1.2 hle ⟨by omega, by omega⟩ (hK _ _ _ _ h)
    rw [List.reverse_reverse, hs2] at hg
    exact hg
  · obtain ⟨eop, eln, c1⟩ := hm
    have eop := Nat.eq_of_beq_eq_true eop
    subst eop
    have eln := Nat.eq_of_beq_eq_true eln
    subst eln
    replace h : (uR st fun _ r => ckk (ej_cats r ≤ 8) (K (pc + 3) ls r M)) = some r := h
    replace h := uR_some h
    obtain ⟨o, r1, rfl, h⟩ := h
    replace h := ckk_some h
    obtain ⟨k1, h⟩ := h
    exact sd_objinit C hd c1 ⟨by omega, by omega⟩ k1 (hK _ _ _ _ h)
set_option maxHeartbeats 1000000 in
theorem so_80 (C : ej_Cx p s m args meth c D cA a0 bs vZ L xs me) {n : Nat} (hd : decode (ej_b me) pc = .ok (.ldc n, len)) (hm : ej_mt me pc len (.ldc n) i = true) (h : ej_stp ej_sw cl i pc len ls st M K = some r) (hK : ∀ pc ls st M, K pc ls st M = some r → ej_G p l e R s m args below meth c Q D cA a0 bs vZ L xs me z0 s0 pc ls st M) (hmo : ∀ pc ls st M, K pc ls st M = some r → mZ M ≤ mZ r.2 ∧ mS M ≤ mS r.2) (hRc : mZ r.2 - z0 ≤ R.cells ∧ mS r.2 - s0 ≤ R.slots) (hR : d0 + 1 ≤ R.frames ∧ 38 * (d0 + 1) ≤ R.locals) (hcl : ∀ m av M1 v M2, m < 221 → cl m av M1 = some (v, M2) → ej_Met l D cA a0 bs vZ L xs d0 m av M1 v M2 ∧ mZ M1 ≤ mZ M2 ∧ mS M1 ≤ mS M2) (hI : ∀ {pc a : Nat} {ls : ej_L} {v : Int32} {M : ej_Mem}, decode (ej_b me) pc = .ok (.ireturn, 1) → ej_rk (ej_rt me) a = true → ej_nar a v → some (some (.int v), M) = some r → ej_G p l e R s m args below meth c Q D cA a0 bs vZ L xs me z0 s0 pc ls [.int v] M) (hJ : ∀ {pc : Nat} {ls : ej_L} {v : Int64} {M : ej_Mem}, decode (ej_b me) pc = .ok (.lreturn, 1) → ej_rt me = some .long → some (some (.long v), M) = some r → ej_G p l e R s m args below meth c Q D cA a0 bs vZ L xs me z0 s0 pc ls [.long v] M) (hA : ∀ {pc : Nat} {ls : ej_L} {q : Option Nat} {M : ej_Mem}, decode (ej_b me) pc = .ok (.areturn, 1) → ej_rr (ej_rt me) = true → some (some (va_rf q), M) = some r → ej_G p l e R s m args below meth c Q D cA a0 bs vZ L xs me z0 s0 pc ls [va_rf q] M) (hV : ∀ {pc : Nat} {ls : ej_L} {M : ej_Mem}, decode (ej_b me) pc = .ok (.return_, 1) → ej_rt me = none → some (none, M) = some r → ej_G p l e R s m args below meth c Q D cA a0 bs vZ L xs me z0 s0 pc ls [] M) : ej_G p l e R s m args below meth c Q D cA a0 bs vZ L xs me z0 s0 pc ls st M := by
  obtain ⟨op, a, b, d, cc, ee⟩ := i
  simp only [ej_mt, Bool.and_eq_true, Bool.or_eq_true, decide_eq_true_eq] at hm
  rcases hm with hm | hm
  · obtain ⟨eop, eln, c1⟩ := hm
    have eop := Nat.eq_of_beq_eq_true eop
    subst eop
    have eln := Nat.eq_of_beq_eq_true eln
    subst eln
    replace h : (K (pc + 2) ls (.int cc :: st) M) = some r := h
    exact sd_ldc C hd (hasI_ok c1) (hK _ _ _ _ h)
  · obtain ⟨eop, eln, c1, c2⟩ := hm
    have eop := Nat.eq_of_beq_eq_true eop
    subst eop
    have eln := Nat.eq_of_beq_eq_true eln
    subst eln
    replace h : (K (pc + 2) ls (.ref a :: st) M) = some r := h
    exact sd_ldcS C hd c1 c2 (hK _ _ _ _ h)
set_option maxHeartbeats 1000000 in
theorem so_81 (C : ej_Cx p s m args meth c D cA a0 bs vZ L xs me) {n : Nat} (hd : decode (ej_b me) pc = .ok (.ldc_w n, len)) (hm : ej_mt me pc len (.ldc_w n) i = true) (h : ej_stp ej_sw cl i pc len ls st M K = some r) (hK : ∀ pc ls st M, K pc ls st M = some r → ej_G p l e R s m args below meth c Q D cA a0 bs vZ L xs me z0 s0 pc ls st M) (hmo : ∀ pc ls st M, K pc ls st M = some r → mZ M ≤ mZ r.2 ∧ mS M ≤ mS r.2) (hRc : mZ r.2 - z0 ≤ R.cells ∧ mS r.2 - s0 ≤ R.slots) (hR : d0 + 1 ≤ R.frames ∧ 38 * (d0 + 1) ≤ R.locals) (hcl : ∀ m av M1 v M2, m < 221 → cl m av M1 = some (v, M2) → ej_Met l D cA a0 bs vZ L xs d0 m av M1 v M2 ∧ mZ M1 ≤ mZ M2 ∧ mS M1 ≤ mS M2) (hI : ∀ {pc a : Nat} {ls : ej_L} {v : Int32} {M : ej_Mem}, decode (ej_b me) pc = .ok (.ireturn, 1) → ej_rk (ej_rt me) a = true → ej_nar a v → some (some (.int v), M) = some r → ej_G p l e R s m args below meth c Q D cA a0 bs vZ L xs me z0 s0 pc ls [.int v] M) (hJ : ∀ {pc : Nat} {ls : ej_L} {v : Int64} {M : ej_Mem}, decode (ej_b me) pc = .ok (.lreturn, 1) → ej_rt me = some .long → some (some (.long v), M) = some r → ej_G p l e R s m args below meth c Q D cA a0 bs vZ L xs me z0 s0 pc ls [.long v] M) (hA : ∀ {pc : Nat} {ls : ej_L} {q : Option Nat} {M : ej_Mem}, decode (ej_b me) pc = .ok (.areturn, 1) → ej_rr (ej_rt me) = true → some (some (va_rf q), M) = some r → ej_G p l e R s m args below meth c Q D cA a0 bs vZ L xs me z0 s0 pc ls [va_rf q] M) (hV : ∀ {pc : Nat} {ls : ej_L} {M : ej_Mem}, decode (ej_b me) pc = .ok (.return_, 1) → ej_rt me = none → some (none, M) = some r → ej_G p l e R s m args below meth c Q D cA a0 bs vZ L xs me z0 s0 pc ls [] M) : ej_G p l e R s m args below meth c Q D cA a0 bs vZ L xs me z0 s0 pc ls st M := by
  obtain ⟨op, a, b, d, cc, ee⟩ := i
  simp only [ej_mt, Bool.and_eq_true, Bool.or_eq_true, decide_eq_true_eq] at hm
  rcases hm with hm | hm
  · obtain ⟨eop, eln, c1⟩ := hm
    have eop := Nat.eq_of_beq_eq_true eop
    subst eop
    have eln := Nat.eq_of_beq_eq_true eln
    subst eln
    replace h : (K (pc + 3) ls (.int cc :: st) M) = some r := h
    exact sd_ldcw C hd (hasI_ok c1) (hK _ _ _ _ h)
  · obtain ⟨eop, eln, c1, c2⟩ := hm
    have eop := Nat.eq_of_beq_eq_true eop
    subst eop
    have eln := Nat.eq_of_beq_eq_true eln
    subst eln
    replace h : (K (pc + 3) ls (.ref a :: st) M) = some r := h
    exact sd_ldcwS C hd c1 c2 (hK _ _ _ _ h)
set_option maxHeartbeats 1000000 in
theorem so_82 (C : ej_Cx p s m args meth c D cA a0 bs vZ L xs me) {n : Nat} (hd : decode (ej_b me) pc = .ok (.getstatic n, len)) (hm : ej_mt me pc len (.getstatic n) i = true) (h : ej_stp ej_sw cl i pc len ls st M K = some r) (hK : ∀ pc ls st M, K pc ls st M = some r → ej_G p l e R s m args below meth c Q D cA a0 bs vZ L xs me z0 s0 pc ls st M) (hmo : ∀ pc ls st M, K pc ls st M = some r → mZ M ≤ mZ r.2 ∧ mS M ≤ mS r.2) (hRc : mZ r.2 - z0 ≤ R.cells ∧ mS r.2 - s0 ≤ R.slots) (hR : d0 + 1 ≤ R.frames ∧ 38 * (d0 + 1) ≤ R.locals) (hcl : ∀ m av M1 v M2, m < 221 → cl m av M1 = some (v, M2) → ej_Met l D cA a0 bs vZ L xs d0 m av M1 v M2 ∧ mZ M1 ≤ mZ M2 ∧ mS M1 ≤ mS M2) (hI : ∀ {pc a : Nat} {ls : ej_L} {v : Int32} {M : ej_Mem}, decode (ej_b me) pc = .ok (.ireturn, 1) → ej_rk (ej_rt me) a = true → ej_nar a v → some (some (.int v), M) = some r → ej_G p l e R s m args below meth c Q D cA a0 bs vZ L xs me z0 s0 pc ls [.int v] M) (hJ : ∀ {pc : Nat} {ls : ej_L} {v : Int64} {M : ej_Mem}, decode (ej_b me) pc = .ok (.lreturn, 1) → ej_rt me = some .long → some (some (.long v), M) = some r → ej_G p l e R s m args below meth c Q D cA a0 bs vZ L xs me z0 s0 pc ls [.long v] M) (hA : ∀ {pc : Nat} {ls : ej_L} {q : Option Nat} {M : ej_Mem}, decode (ej_b me) pc = .ok (.areturn, 1) → ej_rr (ej_rt me) = true → some (some (va_rf q), M) = some r → ej_G p l e R s m args below meth c Q D cA a0 bs vZ L xs me z0 s0 pc ls [va_rf q] M) (hV : ∀ {pc : Nat} {ls : ej_L} {M : ej_Mem}, decode (ej_b me) pc = .ok (.return_, 1) → ej_rt me = none → some (none, M) = some r → ej_G p l e R s m args below meth c Q D cA a0 bs vZ L xs me z0 s0 pc ls [] M) : ej_G p l e R s m args below meth c Q D cA a0 bs vZ L xs me z0 s0 pc ls st M := by
  obtain ⟨op, a, b, d, cc, ee⟩ := i
  simp only [ej_mt, Bool.and_eq_true, Bool.or_eq_true, decide_eq_true_eq] at hm
  rcases hm with (hm | hm) | hm
  · obtain ⟨eop, eln, c1, c2⟩ := hm
    have eop := Nat.eq_of_beq_eq_true eop
    subst eop
    have eln := Nat.eq_of_beq_eq_true eln
    subst eln
    replace h : (K (pc + 3) ls (.ref a :: st) M) = some r := h
    exact sd_getsM C hd (Nat.eq_of_beq_eq_true c1) (by rcases c2 with c2 | c2; exact Or.inl ⟨Nat.eq_of_beq_eq_true c2.1, Nat.eq_of_beq_eq_true c2.2⟩; exact Or.inr ⟨Nat.eq_of_beq_eq_true c2.1, Nat.eq_of_beq_eq_true c2.2⟩) (hK _ _ _ _ h)
  · obtain ⟨eop, eln, c1, c2, c3⟩ := hm
    have eop := Nat.eq_of_beq_eq_true eop
    subst eop
    have eln := Nat.eq_of_beq_eq_true eln
    subst eln
    replace h : (K (pc + 3) ls (.int cc :: st) M) = some r := h
    have e1 := Nat.eq_of_beq_eq_true c1
    subst e1
    subst c3
    exact sd_getsZ C hd (Nat.eq_of_beq_eq_true c2) (hK _ _ _ _ h)
  · obtain ⟨eop, eln, c1, c2⟩ := hm
    have eop := Nat.eq_of_beq_eq_true eop
    subst eop
    have eln := Nat.eq_of_beq_eq_true eln
    subst eln
    replace h : (K (pc + 3) ls (.float 0 :: st) M) = some r := h
    have e1 := Nat.eq_of_beq_eq_true c1
    subst e1
    exact sd_getsT C hd (Nat.eq_of_beq_eq_true c2) (hK _ _ _ _ h)
set_option maxHeartbeats 1000000 in
theorem so_83 (C : ej_Cx p s m args meth c D cA a0 bs vZ L xs me) {n : Nat} (hd : decode (ej_b me) pc = .ok (.checkcast n, len)) (hm : ej_mt me pc len (.checkcast n) i = true) (h : ej_stp ej_sw cl i pc len ls st M K = some r) (hK : ∀ pc ls st M, K pc ls st M = some r → ej_G p l e R s m args below meth c Q D cA a0 bs vZ L xs me z0 s0 pc ls st M) (hmo : ∀ pc ls st M, K pc ls st M = some r → mZ M ≤ mZ r.2 ∧ mS M ≤ mS r.2) (hRc : mZ r.2 - z0 ≤ R.cells ∧ mS r.2 - s0 ≤ R.slots) (hR : d0 + 1 ≤ R.frames ∧ 38 * (d0 + 1) ≤ R.locals) (hcl : ∀ m av M1 v M2, m < 221 → cl m av M1 = some (v, M2) → ej_Met l D cA a0 bs vZ L xs d0 m av M1 v M2 ∧ mZ M1 ≤ mZ M2 ∧ mS M1 ≤ mS M2) (hI : ∀ {pc a : Nat} {ls : ej_L} {v : Int32} {M : ej_Mem}, decode (ej_b me) pc = .ok (.ireturn, 1) → ej_rk (ej_rt me) a = true → ej_nar a v → some (some (.int v), M) = some r → ej_G p l e R s m args below meth c Q D cA a0 bs vZ L xs me z0 s0 pc ls [.int v] M) (hJ : ∀ {pc : Nat} {ls : ej_L} {v : Int64} {M : ej_Mem}, decode (ej_b me) pc = .ok (.lreturn, 1) → ej_rt me = some .long → some (some (.long v), M) = some r → ej_G p l e R s m args below meth c Q D cA a0 bs vZ L xs me z0 s0 pc ls [.long v] M) (hA : ∀ {pc : Nat} {ls : ej_L} {q : Option Nat} {M : ej_Mem}, decode (ej_b me) pc = .ok (.areturn, 1) → ej_rr (ej_rt me) = true → some (some (va_rf q), M) = some r → ej_G p l e R s m args below meth c Q D cA a0 bs vZ L xs me z0 s0 pc ls [va_rf q] M) (hV : ∀ {pc : Nat} {ls : ej_L} {M : ej_Mem}, decode (ej_b me) pc = .ok (.return_, 1) → ej_rt me = none → some (none, M) = some r → ej_G p l e R s m args below meth c Q D cA a0 bs vZ L xs me z0 s0 pc ls [] M) : ej_G p l e R s m args below meth c Q D cA a0 bs vZ L xs me z0 s0 pc ls st M := by
  obtain ⟨op, a, b, d, cc, ee⟩ := i
  simp only [ej_mt, Bool.and_eq_true, Bool.or_eq_true, decide_eq_true_eq] at hm
  obtain ⟨eop, eln, c1, c2⟩ := hm
  have eop := Nat.eq_of_beq_eq_true eop
  subst eop
  have eln := Nat.eq_of_beq_eq_true eln
  subst eln
  replace h : (uR st fun o r => ckk (mC M o = 100) (K (pc + 3) ls (.ref o :: r) M)) = some r := h
  replace h := uR_some h
  obtain ⟨o, r1, rfl, h⟩ := h
  replace h := ckk_some h
  obtain ⟨k1, h⟩ := h
  have e1 := Nat.eq_of_beq_eq_true c1
  subst e1
  exact sd_cast C hd (Nat.eq_of_beq_eq_true c2) k1 (hK _ _ _ _ h)
set_option maxHeartbeats 4000000 in
/-- one step of my machine is steps of the model's -/
theorem sound_stp (C : ej_Cx p s m args meth c D cA a0 bs vZ L xs me) {ins : Instr} (hd : decode (ej_b me) pc = .ok (ins, len)) (hm : ej_mt me pc len ins i = true) (h : ej_stp ej_sw cl i pc len ls st M K = some r) (hK : ∀ pc ls st M, K pc ls st M = some r → ej_G p l e R s m args below meth c Q D cA a0 bs vZ L xs me z0 s0 pc ls st M) (hmo : ∀ pc ls st M, K pc ls st M = some r → mZ M ≤ mZ r.2 ∧ mS M ≤ mS r.2) (hRc : mZ r.2 - z0 ≤ R.cells ∧ mS r.2 - s0 ≤ R.slots) (hR : d0 + 1 ≤ R.frames ∧ 38 * (d0 + 1) ≤ R.locals) (hcl : ∀ m av M1 v M2, m < 221 → cl m av M1 = some (v, M2) → ej_Met l D cA a0 bs vZ L xs d0 m av M1 v M2 ∧ mZ M1 ≤ mZ M2 ∧ mS M1 ≤ mS M2) (hI : ∀ {pc a : Nat} {ls : ej_L} {v : Int32} {M : ej_Mem}, decode (ej_b me) pc = .ok (.ireturn, 1) → ej_rk (ej_rt me) a = true → ej_nar a v → some (some (.int v), M) = some r → ej_G p l e R s m args below meth c Q D cA a0 bs vZ L xs me z0 s0 pc ls [.int v] M) (hJ : ∀ {pc : Nat} {ls : ej_L} {v : Int64} {M : ej_Mem}, decode (ej_b me) pc = .ok (.lreturn, 1) → ej_rt me = some .long → some (some (.long v), M) = some r → ej_G p l e R s m args below meth c Q D cA a0 bs vZ L xs me z0 s0 pc ls [.long v] M) (hA : ∀ {pc : Nat} {ls : ej_L} {q : Option Nat} {M : ej_Mem}, decode (ej_b me) pc = .ok (.areturn, 1) → ej_rr (ej_rt me) = true → some (some (va_rf q), M) = some r → ej_G p l e R s m args below meth c Q D cA a0 bs vZ L xs me z0 s0 pc ls [va_rf q] M) (hV : ∀ {pc : Nat} {ls : ej_L} {M : ej_Mem}, decode (ej_b me) pc = .ok (.return_, 1) → ej_rt me = none → some (none, M) = some r → ej_G p l e R s m args below meth c Q D cA a0 bs vZ L xs me z0 s0 pc ls [] M) : ej_G p l e R s m args below meth c Q D cA a0 bs vZ L xs me z0 s0 pc ls st M := by
  unfold ej_mt at hm
  split at hm
  · exact so_0 C hd hm h hK hmo hRc hR hcl hI hJ hA hV
  · exact so_1 C hd hm h hK hmo hRc hR hcl hI hJ hA hV
  · exact so_2 C hd hm h hK hmo hRc hR hcl hI hJ hA hV
  · exact so_3 C hd hm h hK hmo hRc hR hcl hI hJ hA hV
  · exact so_4 C hd hm h hK hmo hRc hR hcl hI hJ hA hV
  · exact so_5 C hd hm h hK hmo hRc hR hcl hI hJ hA hV
  · exact so_6 C hd hm h hK hmo hRc hR hcl hI hJ hA hV
  · exact so_7 C hd hm h hK hmo hRc hR hcl hI hJ hA hV
  · exact so_8 C hd hm h hK hmo hRc hR hcl hI hJ hA hV
  · exact so_9 C hd hm h hK hmo hRc hR hcl hI hJ hA hV
  · exact so_10 C hd hm h hK hmo hRc hR hcl hI hJ hA hV
  · exact so_11 C hd hm h hK hmo hRc hR hcl hI hJ hA hV
  · exact so_12 C hd hm h hK hmo hRc hR hcl hI hJ hA hV
  · exact so_13 C hd hm h hK hmo hRc hR hcl hI hJ hA hV
  · exact so_14 C hd hm h hK hmo hRc hR hcl hI hJ hA hV
  · exact so_15 C hd hm h hK hmo hRc hR hcl hI hJ hA hV
  · exact so_16 C hd hm h hK hmo hRc hR hcl hI hJ hA hV
  · exact so_17 C hd hm h hK hmo hRc hR hcl hI hJ hA hV
  · exact so_18 C hd hm h hK hmo hRc hR hcl hI hJ hA hV
  · exact so_19 C hd hm h hK hmo hRc hR hcl hI hJ hA hV
  · exact so_20 C hd hm h hK hmo hRc hR hcl hI hJ hA hV
  · exact so_21 C hd hm h hK hmo hRc hR hcl hI hJ hA hV
  · exact so_22 C hd hm h hK hmo hRc hR hcl hI hJ hA hV
  · exact so_23 C hd hm h hK hmo hRc hR hcl hI hJ hA hV
  · exact so_24 C hd hm h hK hmo hRc hR hcl hI hJ hA hV
  · exact so_25 C hd hm h hK hmo hRc hR hcl hI hJ hA hV
  · exact so_26 C hd hm h hK hmo hRc hR hcl hI hJ hA hV
  · exact so_27 C hd hm h hK hmo hRc hR hcl hI hJ hA hV
  · exact so_28 C hd hm h hK hmo hRc hR hcl hI hJ hA hV
  · exact so_29 C hd hm h hK hmo hRc hR hcl hI hJ hA hV
  · exact so_30 C hd hm h hK hmo hRc hR hcl hI hJ hA hV
  · exact so_31 C hd hm h hK hmo hRc hR hcl hI hJ hA hV
  · exact so_32 C hd hm h hK hmo hRc hR hcl hI hJ hA hV
  · exact so_33 C hd hm h hK hmo hRc hR hcl hI hJ hA hV
  · exact so_34 C hd hm h hK hmo hRc hR hcl hI hJ hA hV
  · exact so_35 C hd hm h hK hmo hRc hR hcl hI hJ hA hV
  · exact so_36 C hd hm h hK hmo hRc hR hcl hI hJ hA hV
  · exact so_37 C hd hm h hK hmo hRc hR hcl hI hJ hA hV
  · exact so_38 C hd hm h hK hmo hRc hR hcl hI hJ hA hV
  · exact so_39 C hd hm h hK hmo hRc hR hcl hI hJ hA hV
  · exact so_40 C hd hm h hK hmo hRc hR hcl hI hJ hA hV
  · exact so_41 C hd hm h hK hmo hRc hR hcl hI hJ hA hV
  · exact so_42 C hd hm h hK hmo hRc hR hcl hI hJ hA hV
  · exact so_43 C hd hm h hK hmo hRc hR hcl hI hJ hA hV
  · exact so_44 C hd hm h hK hmo hRc hR hcl hI hJ hA hV
  · exact so_45 C hd hm h hK hmo hRc hR hcl hI hJ hA hV
  · exact so_46 C hd hm h hK hmo hRc hR hcl hI hJ hA hV
  · exact so_47 C hd hm h hK hmo hRc hR hcl hI hJ hA hV
  · exact so_48 C hd hm h hK hmo hRc hR hcl hI hJ hA hV
  · exact so_49 C hd hm h hK hmo hRc hR hcl hI hJ hA hV
  · exact so_50 C hd hm h hK hmo hRc hR hcl hI hJ hA hV
  · exact so_51 C hd hm h hK hmo hRc hR hcl hI hJ hA hV
  · exact so_52 C hd hm h hK hmo hRc hR hcl hI hJ hA hV
  · exact so_53 C hd hm h hK hmo hRc hR hcl hI hJ hA hV
  · exact so_54 C hd hm h hK hmo hRc hR hcl hI hJ hA hV
  · exact so_55 C hd hm h hK hmo hRc hR hcl hI hJ hA hV
  · exact so_56 C hd hm h hK hmo hRc hR hcl hI hJ hA hV
  · exact so_57 C hd hm h hK hmo hRc hR hcl hI hJ hA hV
  · exact so_58 C hd hm h hK hmo hRc hR hcl hI hJ hA hV
  · exact so_59 C hd hm h hK hmo hRc hR hcl hI hJ hA hV
  · exact so_60 C hd hm h hK hmo hRc hR hcl hI hJ hA hV
  · exact so_61 C hd hm h hK hmo hRc hR hcl hI hJ hA hV
  · exact so_62 C hd hm h hK hmo hRc hR hcl hI hJ hA hV
  · exact so_63 C hd hm h hK hmo hRc hR hcl hI hJ hA hV
  · exact so_64 C hd hm h hK hmo hRc hR hcl hI hJ hA hV
  · exact so_65 C hd hm h hK hmo hRc hR hcl hI hJ hA hV
  · exact so_66 C hd hm h hK hmo hRc hR hcl hI hJ hA hV
  · exact so_67 C hd hm h hK hmo hRc hR hcl hI hJ hA hV
  · exact so_68 C hd hm h hK hmo hRc hR hcl hI hJ hA hV
  · exact so_69 C hd hm h hK hmo hRc hR hcl hI hJ hA hV
  · exact so_70 C hd hm h hK hmo hRc hR hcl hI hJ hA hV
  · exact so_71 C hd hm h hK hmo hRc hR hcl hI hJ hA hV
  · exact so_72 C hd hm h hK hmo hRc hR hcl hI hJ hA hV
  · exact so_73 C hd hm h hK hmo hRc hR hcl hI hJ hA hV
  · exact so_74 C hd hm h hK hmo hRc hR hcl hI hJ hA hV
  · exact so_75 C hd hm h hK hmo hRc hR hcl hI hJ hA hV
  · exact so_76 C hd hm h hK hmo hRc hR hcl hI hJ hA hV
  · exact so_77 C hd hm h hK hmo hRc hR hcl hI hJ hA hV
  · exact so_78 C hd hm h hK hmo hRc hR hcl hI hJ hA hV
  · exact so_79 C hd hm h hK hmo hRc hR hcl hI hJ hA hV
  · exact so_80 C hd hm h hK hmo hRc hR hcl hI hJ hA hV
  · exact so_81 C hd hm h hK hmo hRc hR hcl hI hJ hA hV
  · exact so_82 C hd hm h hK hmo hRc hR hcl hI hJ hA hV
  · exact so_83 C hd hm h hK hmo hRc hR hcl hI hJ hA hV
  · cases hm
end SND
