/-! one lemma for each sort of call (written by wip/gen/lx.py) -/
def LCi (L : Nat) (xs : Nat → Int32) (n : Nat) (M : ej_Mem) (mc mr : Nat) (args : List Value) : Prop := ∃ v M1 M2, cal 13 mc (.ref 59 :: args) M = some (some (.int v), M1) ∧ SCR L xs M1 ∧ mC M1 90 = 9 ∧ cal 13 mr (.ref 90 :: args) M1 = some (some (.int v), M2) ∧ LI L xs (n + 1) M2
def LCj (L : Nat) (xs : Nat → Int32) (n : Nat) (M : ej_Mem) (mc mr : Nat) (args : List Value) : Prop := ∃ v M1 M2, cal 13 mc (.ref 59 :: args) M = some (some (.long v), M1) ∧ SCR L xs M1 ∧ mC M1 90 = 9 ∧ cal 13 mr (.ref 90 :: args) M1 = some (some (.long v), M2) ∧ LI L xs (n + 1) M2
theorem lc_first {L : Nat} {xs : Nat → Int32} {n : Nat} {M : ej_Mem} (h : LI L xs n M) (hn : n < 512) (a : Int32) : LCi L xs n M jm_Suit_first jm_Ref_first [.int a] := by
  obtain ⟨own, V, mk, t, tp, z, s, mn, q, h1, h2, h3⟩ := h
  have e1 := c_first (D := 13) (by decide) q.ci.1 a
  have q1 := q
  have e2 := r_first (D := 13) (by decide) q1.kr a
  have q2 := q1
  exact ⟨_, _, _, e1, q1.sc, q1.kr.1.1, e2, _, _, _, _, _, _, _, _, q2, by omega, by omega, by omega⟩
theorem lc_wished {L : Nat} {xs : Nat → Int32} {n : Nat} {M : ej_Mem} (h : LI L xs n M) (hn : n < 512) (a b : Int32) : LCi L xs n M jm_Suit_wished jm_Ref_wished [.int a, .int b] := by
  obtain ⟨own, V, mk, t, tp, z, s, mn, q, h1, h2, h3⟩ := h
  have e1 := c_wished (D := 13) (by decide) q.ci.1 a b
  have q1 := q
  obtain ⟨M2, e2, f2, K2⟩ := r_wished (D := 13) (by decide) q1.kr a b
  have q2 := q1.r8 e2 f2 K2 (by decide)
  exact ⟨_, _, _, e1, q1.sc, q1.kr.1.1, e2, _, _, _, _, _, _, _, _, q2, by omega, by omega, by omega⟩
theorem lc_after {L : Nat} {xs : Nat → Int32} {n : Nat} {M : ej_Mem} (h : LI L xs n M) (hn : n < 512) (a b : Int32) : LCi L xs n M jm_Suit_after jm_Ref_after [.int a, .int b] := by
  obtain ⟨own, V, mk, t, tp, z, s, mn, q, h1, h2, h3⟩ := h
  have e1 := c_after (D := 13) (by decide) q.ci.1 a b
  have q1 := q
  have e2 := r_after (D := 13) (by decide) q1.kr a b
  have q2 := q1
  exact ⟨_, _, _, e1, q1.sc, q1.kr.1.1, e2, _, _, _, _, _, _, _, _, q2, by omega, by omega, by omega⟩
theorem lc_turned {L : Nat} {xs : Nat → Int32} {n : Nat} {M : ej_Mem} (h : LI L xs n M) (hn : n < 512) (a b : Int32) : LCi L xs n M jm_Suit_turned jm_Ref_turned [.int a, .int b] := by
  obtain ⟨own, V, mk, t, tp, z, s, mn, q, h1, h2, h3⟩ := h
  have e1 := c_turned (D := 13) (by decide) q.ci.1 a b
  have q1 := q
  obtain ⟨M2, e2, f2, K2⟩ := r_turned (D := 13) (by decide) q1.kr a b
  have q2 := q1.r8 e2 f2 K2 (by decide)
  exact ⟨_, _, _, e1, q1.sc, q1.kr.1.1, e2, _, _, _, _, _, _, _, _, q2, by omega, by omega, by omega⟩
theorem lc_sought {L : Nat} {xs : Nat → Int32} {n : Nat} {M : ej_Mem} (h : LI L xs n M) (hn : n < 512) (a : Int32) : LCi L xs n M jm_Suit_sought jm_Ref_sought [.int a] := by
  obtain ⟨own, V, mk, t, tp, z, s, mn, q, h1, h2, h3⟩ := h
  have e1 := c_sought (D := 13) (by decide) q.ci.1 a
  have q1 := q
  have e2 := p_soughtR (D := 13) (by decide) q1.kr.1 (b := vB V) q1.kr.2.1.2.2.2.2.2.2.2.1 q1.kr.2.2.1.bq a
  have q2 := q1
  exact ⟨_, _, _, e1, q1.sc, q1.kr.1.1, e2, _, _, _, _, _, _, _, _, q2, by omega, by omega, by omega⟩
theorem lc_row {L : Nat} {xs : Nat → Int32} {n : Nat} {M : ej_Mem} (h : LI L xs n M) (hn : n < 512) (a : Int32) : LCi L xs n M jm_Suit_row jm_Ref_row [.int a] := by
  obtain ⟨own, V, mk, t, tp, z, s, mn, q, h1, h2, h3⟩ := h
  have e1 := c_row (D := 13) (by decide) q.ci.1 a
  have q1 := q
  have e2 := p_rowR (D := 13) (by decide) q1.kr.1 (b := vB V) q1.kr.2.1.2.2.2.2.2.2.2.1 q1.kr.2.2.1.bq a
  have q2 := q1
  exact ⟨_, _, _, e1, q1.sc, q1.kr.1.1, e2, _, _, _, _, _, _, _, _, q2, by omega, by omega, by omega⟩
theorem lc_met {L : Nat} {xs : Nat → Int32} {n : Nat} {M : ej_Mem} (h : LI L xs n M) (hn : n < 512) (a : Int32) : LCi L xs n M jm_Suit_met jm_Ref_met [.int a] := by
  obtain ⟨own, V, mk, t, tp, z, s, mn, q, h1, h2, h3⟩ := h
  have e1 := c_met (D := 13) (by decide) q.ci.1 a
  have q1 := q
  have e2 := p_metR (D := 13) (by decide) q1.kr.1 (b := vB V) q1.kr.2.1.2.2.2.2.2.2.2.1 q1.kr.2.2.1.bq a
  have q2 := q1
  exact ⟨_, _, _, e1, q1.sc, q1.kr.1.1, e2, _, _, _, _, _, _, _, _, q2, by omega, by omega, by omega⟩
theorem lc_reached {L : Nat} {xs : Nat → Int32} {n : Nat} {M : ej_Mem} (h : LI L xs n M) (hn : n < 512) (a b c : Int32) : LCi L xs n M jm_Suit_reached jm_Ref_reached [.int a, .int b, .int c] := by
  obtain ⟨own, V, mk, t, tp, z, s, mn, q, h1, h2, h3⟩ := h
  obtain ⟨M1, e1, f1, K1⟩ := c_reached (D := 13) (by decide) q.ci.1 a b c
  have q1 := q.c7 e1 f1 K1 (by decide) (by decide) (by decide)
  obtain ⟨M2, mn2, e2, f2, K2, hm⟩ := r_reached (D := 13) (by decide) q1.kr (by omega) a b c
  have q2 := q1.r8 e2 f2 K2 (by decide)
  exact ⟨_, _, _, e1, q1.sc, q1.kr.1.1, e2, _, _, _, _, _, _, _, _, q2, by omega, by omega, by omega⟩
theorem lc_may {L : Nat} {xs : Nat → Int32} {n : Nat} {M : ej_Mem} (h : LI L xs n M) (hn : n < 512) (a b c d : Int32) : LCi L xs n M jm_Suit_may jm_Ref_may [.int a, .int b, .int c, .int d] := by
  obtain ⟨own, V, mk, t, tp, z, s, mn, q, h1, h2, h3⟩ := h
  obtain ⟨M1, e1, f1, K1⟩ := c_may (D := 13) (by decide) q.ci.1 a b c d
  have q1 := q.c7 e1 f1 K1 (by decide) (by decide) (by decide)
  obtain ⟨M2, e2, f2, K2⟩ := r_may (D := 13) (by decide) q1.kr a b c d
  have q2 := q1.r8 e2 f2 K2 (by decide)
  exact ⟨_, _, _, e1, q1.sc, q1.kr.1.1, e2, _, _, _, _, _, _, _, _, q2, by omega, by omega, by omega⟩
theorem lc_safe {L : Nat} {xs : Nat → Int32} {n : Nat} {M : ej_Mem} (h : LI L xs n M) (hn : n < 512) (a b c d : Int32) : LCi L xs n M jm_Suit_safe jm_Ref_safe [.int a, .int b, .int c, .int d] := by
  obtain ⟨own, V, mk, t, tp, z, s, mn, q, h1, h2, h3⟩ := h
  obtain ⟨M1, e1, f1, K1⟩ := c_safe (D := 13) (by decide) q.ci.1 a b c d
  have q1 := q.c7 e1 f1 K1 (by decide) (by decide) (by decide)
  obtain ⟨M2, mn2, e2, f2, K2, hm⟩ := r_safe (D := 13) (by decide) q1.kr (by omega) a b c d
  have q2 := q1.r8 e2 f2 K2 (by decide)
  exact ⟨_, _, _, e1, q1.sc, q1.kr.1.1, e2, _, _, _, _, _, _, _, _, q2, by omega, by omega, by omega⟩
theorem lc_last {L : Nat} {xs : Nat → Int32} {n : Nat} {M : ej_Mem} (h : LI L xs n M) (hn : n < 512) (a b c d : Int32) : LCi L xs n M jm_Suit_last jm_Ref_last [.int a, .int b, .int c, .int d] := by
  obtain ⟨own, V, mk, t, tp, z, s, mn, q, h1, h2, h3⟩ := h
  obtain ⟨M1, e1, f1, K1⟩ := c_last (D := 13) (by decide) q.ci.1 a b c d
  have q1 := q.c7 e1 f1 K1 (by decide) (by decide) (by decide)
  obtain ⟨M2, mn2, e2, f2, K2, hm⟩ := r_last (D := 13) (by decide) q1.kr (by omega) a b c d
  have q2 := q1.r8 e2 f2 K2 (by decide)
  exact ⟨_, _, _, e1, q1.sc, q1.kr.1.1, e2, _, _, _, _, _, _, _, _, q2, by omega, by omega, by omega⟩
theorem lc_fewest {L : Nat} {xs : Nat → Int32} {n : Nat} {M : ej_Mem} (h : LI L xs n M) (hn : n < 512) (a b c d : Int32) : LCi L xs n M jm_Suit_fewest jm_Ref_fewest [.int a, .int b, .int c, .int d] := by
  obtain ⟨own, V, mk, t, tp, z, s, mn, q, h1, h2, h3⟩ := h
  obtain ⟨M1, e1, f1, K1⟩ := c_fewest (D := 13) (by decide) q.ci.1 a b c d
  have q1 := q.c7 e1 f1 K1 (by decide) (by decide) (by decide)
  obtain ⟨M2, mn2, e2, f2, K2, hm⟩ := r_fewest (D := 13) (by decide) q1.kr (by omega) a b c d
  have q2 := q1.r8 e2 f2 K2 (by decide)
  exact ⟨_, _, _, e1, q1.sc, q1.kr.1.1, e2, _, _, _, _, _, _, _, _, q2, by omega, by omega, by omega⟩
theorem lc_judged {L : Nat} {xs : Nat → Int32} {n : Nat} {M : ej_Mem} (h : LI L xs n M) (hn : n < 512) (a b : Int32) : LCi L xs n M jm_Suit_judged jm_Ref_judged [.int a, .int b] := by
  obtain ⟨own, V, mk, t, tp, z, s, mn, q, h1, h2, h3⟩ := h
  obtain ⟨M1, e1, f1, K1⟩ := c_judged (D := 13) (by decide) q.ci.1 a b
  have q1 := q.c7 e1 f1 K1 (by decide) (by decide) (by decide)
  obtain ⟨M2, e2, f2, K2⟩ := r_judged (D := 13) (by decide) q1.kr a b
  have q2 := q1.r8 e2 f2 K2 (by decide)
  exact ⟨_, _, _, e1, q1.sc, q1.kr.1.1, e2, _, _, _, _, _, _, _, _, q2, by omega, by omega, by omega⟩
theorem lc_costs {L : Nat} {xs : Nat → Int32} {n : Nat} {M : ej_Mem} (h : LI L xs n M) (hn : n < 512) (a b : Int32) : LCi L xs n M jm_Suit_costs jm_Ref_costs [.int a, .int b] := by
  obtain ⟨own, V, mk, t, tp, z, s, mn, q, h1, h2, h3⟩ := h
  obtain ⟨M1, e1, f1, K1⟩ := c_costs (D := 13) (by decide) q.ci.1 a b
  have q1 := q.c7 e1 f1 K1 (by decide) (by decide) (by decide)
  obtain ⟨M2, e2, f2, K2⟩ := r_costs (D := 13) (by decide) q1.kr a b
  have q2 := q1.r8 e2 f2 K2 (by decide)
  exact ⟨_, _, _, e1, q1.sc, q1.kr.1.1, e2, _, _, _, _, _, _, _, _, q2, by omega, by omega, by omega⟩
theorem lc_feigned {L : Nat} {xs : Nat → Int32} {n : Nat} {M : ej_Mem} (h : LI L xs n M) (hn : n < 512) (a : Int32) : LCi L xs n M jm_Suit_feigned jm_Ref_feigned [.int a] := by
  obtain ⟨own, V, mk, t, tp, z, s, mn, q, h1, h2, h3⟩ := h
  obtain ⟨M1, e1, f1, K1⟩ := c_feigned (D := 13) (by decide) q.ci.1 a
  have q1 := q.c7 e1 f1 K1 (by decide) (by decide) (by decide)
  obtain ⟨M2, e2, f2, K2⟩ := r_feigned (D := 13) (by decide) q1.kr a
  have q2 := q1.r8 e2 f2 K2 (by decide)
  exact ⟨_, _, _, e1, q1.sc, q1.kr.1.1, e2, _, _, _, _, _, _, _, _, q2, by omega, by omega, by omega⟩
theorem lc_claims {L : Nat} {xs : Nat → Int32} {n : Nat} {M : ej_Mem} (h : LI L xs n M) (hn : n < 512) (a b : Int32) : LCi L xs n M jm_Suit_claims jm_Ref_claims [.int a, .int b] := by
  obtain ⟨own, V, mk, t, tp, z, s, mn, q, h1, h2, h3⟩ := h
  obtain ⟨M1, e1, f1, K1⟩ := c_claims (D := 13) (by decide) q.ci.1 a b
  have q1 := q.c7 e1 f1 K1 (by decide) (by decide) (by decide)
  obtain ⟨M2, e2, f2, K2⟩ := r_claims (D := 13) (by decide) q1.kr a b
  have q2 := q1.r8 e2 f2 K2 (by decide)
  exact ⟨_, _, _, e1, q1.sc, q1.kr.1.1, e2, _, _, _, _, _, _, _, _, q2, by omega, by omega, by omega⟩
theorem lc_risk {L : Nat} {xs : Nat → Int32} {n : Nat} {M : ej_Mem} (h : LI L xs n M) (hn : n < 512) (a b : Int32) : LCi L xs n M jm_Suit_risk jm_Ref_risk [.int a, .int b] := by
  obtain ⟨own, V, mk, t, tp, z, s, mn, q, h1, h2, h3⟩ := h
  obtain ⟨M1, e1, f1, K1⟩ := c_risk (D := 13) (by decide) q.ci.1 a b
  have q1 := q.c7 e1 f1 K1 (by decide) (by decide) (by decide)
  obtain ⟨M2, e2, f2, K2⟩ := r_risk (D := 13) (by decide) q1.kr a b
  have q2 := q1.r8 e2 f2 K2 (by decide)
  exact ⟨_, _, _, e1, q1.sc, q1.kr.1.1, e2, _, _, _, _, _, _, _, _, q2, by omega, by omega, by omega⟩
theorem lc_words {L : Nat} {xs : Nat → Int32} {n : Nat} {M : ej_Mem} (h : LI L xs n M) (hn : n < 512) (a b c d e : Int32) : LCi L xs n M jm_Suit_words jm_Ref_words [.int a, .int b, .int c, .int d, .int e] := by
  obtain ⟨own, V, mk, t, tp, z, s, mn, q, h1, h2, h3⟩ := h
  obtain ⟨M1, e1, f1, K1⟩ := c_words (D := 13) (by decide) q.ci.1 a b c d e
  have q1 := q.c7 e1 f1 K1 (by decide) (by decide) (by decide)
  obtain ⟨M2, mn2, e2, f2, K2, hm⟩ := r_words (D := 13) (by decide) q1.kr (by omega) a b c d e
  have q2 := q1.r8 e2 f2 K2 (by decide)
  exact ⟨_, _, _, e1, q1.sc, q1.kr.1.1, e2, _, _, _, _, _, _, _, _, q2, by omega, by omega, by omega⟩
theorem lc_force {L : Nat} {xs : Nat → Int32} {n : Nat} {M : ej_Mem} (h : LI L xs n M) (hn : n < 512) (a : Int32) : LCi L xs n M jm_Suit_force jm_Ref_force [.int a] := by
  obtain ⟨own, V, mk, t, tp, z, s, mn, q, h1, h2, h3⟩ := h
  obtain ⟨M1, e1, f1, K1⟩ := c_force (D := 13) (by decide) q.ci.1 a
  have q1 := q.c2 e1 f1 K1 (by decide) (by decide) (by decide)
  obtain ⟨M2, e2, f2, K2⟩ := r_force (D := 13) (by decide) q1.kr a
  have q2 := q1.r8 e2 f2 K2 (by decide)
  exact ⟨_, _, _, e1, q1.sc, q1.kr.1.1, e2, _, _, _, _, _, _, _, _, q2, by omega, by omega, by omega⟩
theorem lc_holds {L : Nat} {xs : Nat → Int32} {n : Nat} {M : ej_Mem} (h : LI L xs n M) (hn : n < 512) (a b : Int32) : LCi L xs n M jm_Suit_holds jm_Ref_holds [.int a, .int b] := by
  obtain ⟨own, V, mk, t, tp, z, s, mn, q, h1, h2, h3⟩ := h
  obtain ⟨M1, e1, f1, K1⟩ := c_holds (D := 13) (by decide) q.ci.1 a b
  have q1 := q.c2 e1 f1 K1 (by decide) (by decide) (by decide)
  obtain ⟨M2, e2, f2, K2⟩ := r_holds (D := 13) (by decide) q1.kr a b
  have q2 := q1.r8 e2 f2 K2 (by decide)
  exact ⟨_, _, _, e1, q1.sc, q1.kr.1.1, e2, _, _, _, _, _, _, _, _, q2, by omega, by omega, by omega⟩
theorem lc_open {L : Nat} {xs : Nat → Int32} {n : Nat} {M : ej_Mem} (h : LI L xs n M) (hn : n < 512) (a b c : Int32) : LCi L xs n M jm_Suit_open jm_Ref_open [.int a, .int b, .int c] := by
  obtain ⟨own, V, mk, t, tp, z, s, mn, q, h1, h2, h3⟩ := h
  obtain ⟨M1, e1, f1, K1⟩ := c_open (D := 13) (by decide) q.ci.1 a b c
  have q1 := q.c2 e1 f1 K1 (by decide) (by decide) (by decide)
  obtain ⟨M2, e2, f2, K2⟩ := r_open (D := 13) (by decide) q1.kr a b c
  have q2 := q1.r8 e2 f2 K2 (by decide)
  exact ⟨_, _, _, e1, q1.sc, q1.kr.1.1, e2, _, _, _, _, _, _, _, _, q2, by omega, by omega, by omega⟩
theorem lc_roll {L : Nat} {xs : Nat → Int32} {n : Nat} {M : ej_Mem} (h : LI L xs n M) (hn : n < 512) (a b : Int32) : LCi L xs n M jm_Suit_roll jm_Ref_roll [.int a, .int b] := by
  obtain ⟨own, V, mk, t, tp, z, s, mn, q, h1, h2, h3⟩ := h
  obtain ⟨M1, e1, f1, K1⟩ := c_roll (D := 13) (by decide) q.ci.1 a b
  have q1 := q.c2 e1 f1 K1 (by decide) (by decide) (by decide)
  obtain ⟨M2, e2, f2, K2⟩ := r_roll (D := 13) (by decide) q1.kr a b
  have q2 := q1.r8 e2 f2 K2 (by decide)
  exact ⟨_, _, _, e1, q1.sc, q1.kr.1.1, e2, _, _, _, _, _, _, _, _, q2, by omega, by omega, by omega⟩
theorem lc_enter {L : Nat} {xs : Nat → Int32} {n : Nat} {M : ej_Mem} (h : LI L xs n M) (hn : n < 512) (a b : Int32) : LCi L xs n M jm_Suit_enter jm_Ref_enter [.int a, .int b] := by
  obtain ⟨own, V, mk, t, tp, z, s, mn, q, h1, h2, h3⟩ := h
  obtain ⟨M1, e1, f1, K1⟩ := c_enter (D := 13) (by decide) q.ci.1 a b
  have q1 := q.c2 e1 f1 K1 (by decide) (by decide) (by decide)
  obtain ⟨M2, e2, f2, K2⟩ := r_enter (D := 13) (by decide) q1.kr a b
  have q2 := q1.r8 e2 f2 K2 (by decide)
  exact ⟨_, _, _, e1, q1.sc, q1.kr.1.1, e2, _, _, _, _, _, _, _, _, q2, by omega, by omega, by omega⟩
theorem lc_go {L : Nat} {xs : Nat → Int32} {n : Nat} {M : ej_Mem} (h : LI L xs n M) (hn : n < 512) (a : Int32) : LCi L xs n M jm_Suit_go jm_Ref_go [.int a] := by
  obtain ⟨own, V, mk, t, tp, z, s, mn, q, h1, h2, h3⟩ := h
  obtain ⟨M1, e1, f1, K1⟩ := c_go (D := 13) (by decide) q.ci.1 a
  have q1 := q.c2 e1 f1 K1 (by decide) (by decide) (by decide)
  obtain ⟨M2, mn2, e2, f2, K2, hm⟩ := r_go (D := 13) (by decide) q1.kr (by omega) a
  have q2 := q1.r8 e2 f2 K2 (by decide)
  exact ⟨_, _, _, e1, q1.sc, q1.kr.1.1, e2, _, _, _, _, _, _, _, _, q2, by omega, by omega, by omega⟩
theorem lc_count {L : Nat} {xs : Nat → Int32} {n : Nat} {M : ej_Mem} (h : LI L xs n M) (hn : n < 512) (a : Int32) : LCi L xs n M jm_Suit_count jm_Ref_count [.int a] := by
  obtain ⟨own, V, mk, t, tp, z, s, mn, q, h1, h2, h3⟩ := h
  have e1 := c_count (D := 13) (by decide) q.ci.1 q.tc a
  have q1 := q
  have e2 := r_count (D := 13) (by decide) q1.kr q1.tr a
  have q2 := q1
  exact ⟨_, _, _, e1, q1.sc, q1.kr.1.1, e2, _, _, _, _, _, _, _, _, q2, by omega, by omega, by omega⟩
theorem lc_least {L : Nat} {xs : Nat → Int32} {n : Nat} {M : ej_Mem} (h : LI L xs n M) (hn : n < 512) (a b c d : Int32) : LCi L xs n M jm_Suit_least jm_Ref_least [.int a, .int b, .int c, .int d] := by
  obtain ⟨own, V, mk, t, tp, z, s, mn, q, h1, h2, h3⟩ := h
  obtain ⟨M1, x1, e1, f1, K1, l1⟩ := c_least (D := 13) (by decide) q.ci.1 a b c d
  have q1 := q.c7 e1 f1 K1 (by decide) (by decide) (by decide)
  obtain ⟨M2, mn2, x2, e2, f2, K2, hm, l2⟩ := r_least (D := 13) (by decide) q1.kr (by omega) a b c d
  have q2 := q1.r8 e2 f2 K2 (by decide)
  obtain rfl := l1.one l2
  exact ⟨_, _, _, e1, q1.sc, q1.kr.1.1, e2, _, _, _, _, _, _, _, _, q2, by omega, by omega, by omega⟩
theorem lc_keys {L : Nat} {xs : Nat → Int32} {n : Nat} {M : ej_Mem} (h : LI L xs n M) (hn : n < 512) (a b c : Int32) : LCj L xs n M jm_Suit_keys jm_Ref_keys [.int a, .int b, .int c] := by
  obtain ⟨own, V, mk, t, tp, z, s, mn, q, h1, h2, h3⟩ := h
  obtain ⟨x1, M1, e1, i1, j1, f1, K1⟩ := c_keys (D := 13) (by decide) q.ci.1 a b c
  have q1 := q.c7 e1 f1 K1 (by decide) (by decide) (by decide)
  obtain ⟨x2, M2, mn2, e2, i2, j2, f2, K2, hm⟩ := r_keys (D := 13) (by decide) q1.kr (by omega) a b c
  have q2 := q1.r8 e2 f2 K2 (by decide)
  have : x1 = x2 := by
    cases hb : askB V a b c
    · rw [i1 hb, i2 hb]
    · exact bJ_ext (fun k hk => by rw [j1 hb k hk, j2 hb k hk])
  subst this
  exact ⟨_, _, _, e1, q1.sc, q1.kr.1.1, e2, _, _, _, _, _, _, _, _, q2, by omega, by omega, by omega⟩
theorem lc_search {L : Nat} {xs : Nat → Int32} {n : Nat} {M : ej_Mem} (h : LI L xs n M) (hn : n < 512) (a b c d : Int32) : LCi L xs n M jm_Suit_search jm_Ref_search [.int a, .int b, .int c, .int d] := by
  obtain ⟨own, V, mk, t, tp, z, s, mn, q, h1, h2, h3⟩ := h
  obtain ⟨M1, own1, e1, f1, c1, o1, r1⟩ := q.ci.search (D := 13) (by decide) a b c d
  have hB := q.ci.1.2.2.2.1
  have q1 := q.cg f1 (P2_hi hB) c1 (q.tc.g f1 q.ci.1.2.2.1 (P2_tc hB)) (r1 _ _ q.rm)
  obtain ⟨M2, e2, f2, K2⟩ := r_search (D := 13) (by decide) q1.kr a b c d
  have q2 := q1.r8 e2 f2 K2 (by decide)
  exact ⟨_, _, _, e1, q1.sc, q1.kr.1.1, e2, _, _, _, _, _, _, _, _, q2, by omega, by omega, by omega⟩
theorem lc_feed {L : Nat} {xs : Nat → Int32} {n : Nat} {M : ej_Mem} (h : LI L xs n M) (hn : n < 512) (a b c d e : Int32) : LCi L xs n M jm_Suit_feed jm_Ref_feed [.int a, .int b, .int c, .int d, .int e] := by
  obtain ⟨own, V, mk, t, tp, z, s, mn, q, h1, h2, h3⟩ := h
  obtain ⟨M1, e1, f1, K1, T1⟩ := c_feed (D := 13) (by decide) q.ci.1 q.tc a b c d e
  have p59 : ∀ o k, P59 o k → (own o = 2 ∨ own o = 7) ∧ o ≠ 79 := fun o k r => by
    have hB := q.ci.1.2.2.2.1
    unfold P59 at r
    have : own o = 7 := hB.2.2.1 o (by omega) (by omega)
    omega
  obtain ⟨c1, r1⟩ := q.ci.step e1 f1 p59 K1 (by decide) (by decide) (by decide)
  have q1 := q.cg f1 (fun o k r => by unfold P59 at r; omega) c1 T1 (r1 _ _ q.rm)
  obtain ⟨M2, e2, f2, K2, T2⟩ := r_feed (D := 13) (by decide) q1.kr q1.tr a b c d e
  have q2 := q1.rg e2 f2.g (fun o k r => by unfold P91 at r; omega) (by decide) K2 (q1.mr.g f2.g q1.ci.1.2.2.1 (fun o k r => by unfold P91 at r; omega)) T2
  exact ⟨_, _, _, e1, q1.sc, q1.kr.1.1, e2, _, _, _, _, _, _, _, _, q2, by omega, by omega, by omega⟩
theorem lc_end {L : Nat} {xs : Nat → Int32} {n : Nat} {M : ej_Mem} (h : LI L xs n M) (hn : n < 512) (a : Int32) : LCi L xs n M jm_Suit_end jm_Ref_end [.int a] := by
  obtain ⟨own, V, mk, t, tp, z, s, mn, q, h1, h2, h3⟩ := h
  obtain ⟨M1, e1, f1, K1, T1⟩ := c_end (D := 13) (by decide) q.ci.1 q.tc a
  have p59 : ∀ o k, P59 o k → (own o = 2 ∨ own o = 7) ∧ o ≠ 79 := fun o k r => by
    have hB := q.ci.1.2.2.2.1
    unfold P59 at r
    have : own o = 7 := hB.2.2.1 o (by omega) (by omega)
    omega
  obtain ⟨c1, r1⟩ := q.ci.step e1 f1 p59 K1 (by decide) (by decide) (by decide)
  have q1 := q.cg f1 (fun o k r => by unfold P59 at r; omega) c1 T1 (r1 _ _ q.rm)
  obtain ⟨M2, e2, f2, K2, T2⟩ := r_end (D := 13) (by decide) q1.kr q1.tr a
  have q2 := q1.rg e2 f2.g (fun o k r => by unfold P91 at r; omega) (by decide) K2 (q1.mr.g f2.g q1.ci.1.2.2.1 (fun o k r => by unfold P91 at r; omega)) T2
  exact ⟨_, _, _, e1, q1.sc, q1.kr.1.1, e2, _, _, _, _, _, _, _, _, q2, by omega, by omega, by omega⟩
theorem lc_text {L : Nat} {xs : Nat → Int32} {n : Nat} {M : ej_Mem} (h : LI L xs n M) (hn : n < 512) (a : Int32) : LCi L xs n M jm_Suit_text jm_Ref_text [.int a] := by
  obtain ⟨own, V, mk, t, tp, z, s, mn, q, h1, h2, h3⟩ := h
  obtain ⟨M1, own1, z1, s1, e1, c1, f1, T1, ⟨r1, z2, s2, z3, s3⟩, o1⟩ := c_text (D := 13) (by decide) q.ci q.st q.tc.tpo q.tc q.rm a
  have q1 := q.cg f1 (fun o k r => by unfold PzL Pz Prx at r; omega) c1 T1 r1
  obtain ⟨M2, e2, f2, K2, T2⟩ := r_text (D := 13) (by decide) q1.kr q1.st q.tc.tpo q1.tr a
  have q2 := q1.rg e2 f2 (fun o k r => by unfold PrT P8 at r; omega) (by decide) K2 (q1.mr.g f2 q1.ci.1.2.2.1 (fun o k r => by unfold PrT P8 at r; omega)) T2
  have b1 : mn ≤ 1024 * (n + 1) := by omega
  have b2 : z1 ≤ 1000 + 3 * (n + 1) := by clear e1 e2; omega
  have b3 : s1 ≤ 1000000 + 340 * (n + 1) := by
    have : s1 ≤ 1000000 + 340 * n + 340 := Nat.le_trans s3 (Nat.add_le_add_right h3 340)
    exact Nat.le_trans this (Nat.le_of_eq (by rw [Nat.mul_add, Nat.add_assoc]))
  exact ⟨_, _, _, e1, q1.sc, q1.kr.1.1, e2, _, _, _, _, _, _, _, _, q2, b1, b2, b3⟩
theorem lc_mark {L : Nat} {xs : Nat → Int32} {n : Nat} {M : ej_Mem} (h : LI L xs n M) (hn : n < 512) (a : Int32) : LCi L xs n M jm_Suit_mark jm_Ref_mark [.int a] := by
  obtain ⟨own, V, mk, t, tp, z, s, mn, q, h1, h2, h3⟩ := h
  cases hx : inB a 0 3
  · have e1 := c_mark_n (D := 13) (by decide) (M := M) hx
    have e2 := r_mark_n (D := 13) (by decide) q.kr hx
    exact ⟨_, _, _, e1, q.sc, q.kr.1.1, e2, _, _, _, _, _, _, _, _, q, by omega, by omega, by omega⟩
  · obtain ⟨k, hk, rfl⟩ := inB03 hx
    have hB := q.ci.1.2.2.2.1
    obtain ⟨M1, own1, e1, f1, o1, c1, r1⟩ := c_mark (D := 13) (by decide) q.ci hk
    have hi : ∀ o j, (fun o (_ : Nat) => own o = 3 + k ∨ o = 79) o j → 59 ≤ o ∧ ¬ (90 ≤ o ∧ o ≤ 121) := fun o j r => by
      rcases r with r | r
      · refine ⟨?_, fun y => ?_⟩
        · rcases Nat.lt_or_ge o 59 with y | y
          · have := hB.2.1 o y; omega
          · exact y
        · have := hB.2.2.2.2.2 o y.1 y.2; omega
      · omega
    have tc : ∀ o j, (fun o (_ : Nat) => own o = 3 + k ∨ o = 79) o j → o ≠ 60 ∧ (o = 59 → j ≠ 1) := fun o j r => by
      have a := hB.2.2.1 59 (by omega) (by omega)
      have b := hB.2.2.1 60 (by omega) (by omega)
      rcases r with r | r
      · exact ⟨fun y => by rw [y] at r; omega, fun y => by rw [y] at r; omega⟩
      · omega
    have q1 := q.cg f1 hi c1 (q.tc.g f1 q.ci.1.2.2.1 tc) (r1 _ _ q.rm)
    obtain ⟨M2, e2, f2, K2, s2, g2, u2⟩ := r_mark (D := 13) (by decide) q1.kr hk
    have q2 := q1.rg e2 f2.g (fun o k r => by unfold Pmk at r; omega) (by decide) K2 (q1.mr.mark q1.kr.2.2.1 s2 g2 u2) (q1.tr.g f2.g q1.ci.1.2.2.1 (fun o k r => by unfold Pmk at r; omega))
    exact ⟨_, _, _, e1, q1.sc, q1.kr.1.1, e2, _, _, _, _, _, _, _, _, q2, by omega, by omega, by omega⟩
theorem lc_back {L : Nat} {xs : Nat → Int32} {n : Nat} {M : ej_Mem} (h : LI L xs n M) (hn : n < 512) (a : Int32) : LCi L xs n M jm_Suit_back jm_Ref_back [.int a] := by
  obtain ⟨own, V, mk, t, tp, z, s, mn, q, h1, h2, h3⟩ := h
  have no : (inB a 0 3 = false ∨ ∃ k, k < 4 ∧ a = nI k ∧ mk k = none) → LCi L xs n M jm_Suit_back jm_Ref_back [.int a] := fun r => by
    have e1 := c_back_n (D := 13) (by decide) q.ci r
    have e2 := r_back_n (D := 13) (by decide) q.kr (x := a) (by
      rcases r with r | ⟨k, hk, r1, r2⟩
      · exact Or.inl r
      · have := q.mr k hk
        rw [r2] at this
        exact Or.inr ⟨k, hk, r1, this⟩)
    exact ⟨_, _, _, e1, q.sc, q.kr.1.1, e2, _, _, _, _, _, _, _, _, q, by omega, by omega, by omega⟩
  cases hx : inB a 0 3
  · exact no (Or.inl hx)
  · obtain ⟨k, hk, rfl⟩ := inB03 hx
    cases hm : mk k with
    | none => exact no (Or.inr ⟨k, hk, rfl, hm⟩)
    | some W =>
      have hB := q.ci.1.2.2.2.1
      obtain ⟨M1, own1, e1, f1, o1, c1, r1⟩ := c_back (D := 13) (by decide) q.ci hk hm
      have q1 := q.cg f1 (P2_hi hB) c1 (q.tc.g f1 q.ci.1.2.2.1 (P2_tc hB)) (r1 _ _ q.rm)
      have m1 := q1.mr k hk
      rw [hm] at m1
      obtain ⟨m2, m3, m4⟩ := m1
      obtain ⟨M2, e2, f2, K2⟩ := r_back (D := 13) (by decide) q1.kr hk (by rw [m2]; decide) m4 m3
      have q2 := q1.rg e2 f2.g (fun o k r => by have := Pbk_o r; omega) (by decide) K2 (q1.mr.g f2.g q1.ci.1.2.2.1 (fun o k r => by have := Pbk_o r; omega)) (q1.tr.g f2.g q1.ci.1.2.2.1 (fun o k r => by have := Pbk_o r; omega))
      exact ⟨_, _, _, e1, q1.sc, q1.kr.1.1, e2, _, _, _, _, _, _, _, _, q2, by omega, by omega, by omega⟩
