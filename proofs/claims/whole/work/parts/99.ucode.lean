/-! the reference: a test from its beginning -/
theorem r_test {D : Nat} (hD : 9 ≤ D) {M : ej_Mem} {t : Nat} {tp : Nat → Nat} {p sl e0 c : Nat} (H : RL M t tp p 0) (h4 : mI M 90 4 = nI sl) (h5 : mI M 90 5 = nI e0) (h6 : mI M 90 6 = 0) (h7 : mI M 90 7 = nI c) (hsl : sl < 72) (hB : 3 * e0 ≤ p + 3 * c) (hc : c ≤ 60) (hp : p ≤ t) : ∃ M', cal D jm_Ref_test [.ref 90] M = some (none, M') ∧ TstG M M' t tp sl e0 (tst tp t p c) := by
  obtain ⟨d, rfl⟩ : ∃ d, D = d + 1 := ⟨D - 1, by omega⟩
  have t4 := H.2.2.1.1.1
  rw [ca_Ref_test, eq_Ref_test_0]
  simp only [RW.all H.1, MR, ckk_T, deR_s, deQ_s, deQ_n, bkV_s, bkI_s, bkJ_s, bkQ_s, bkQ_n, ckb0, ckb1, ckb2, ckb3, eq_self, Nat.reduceEqDiff, Nat.reduceLeDiff, Nat.reduceLT, reduceIte, true_or, or_true, not_false_eq_true, not_true_eq_false, and_self, and_true, true_and, LIT, Int32.reduceLT, Int32.reduceLE, Int32.reduceToNatClampNeg]
  have F : Fr (Pt sl e0) M (setI M 90 8 0) := Fr.setI (P := Pt sl e0) M _ (by unfold Pt; omega)
  have X : RX2 (setI M 90 8 0) t tp p sl e0 e0 0 c [] [] := ⟨H.keep (Fr.setI (P := fun o j => 92 ≤ o ∨ (o = 90 ∧ 4 ≤ j)) _ _ (by omega)) (fun o k q => q), ⟨h4, h5, h6, h7, rfl⟩, trivial, by rw [Nat.sub_self]; exact RQ.nil _ _ _, Nat.le_refl _, hsl⟩
  obtain ⟨M', e', T'⟩ := r_tloop (by omega : 8 ≤ d) 402 (p, none, (none, none, 0), [], c) (setI M 90 8 0) none none (by show t - p < 402; omega) ⟨e0, 0, fun _ => false, X, fun _ => rfl, fun w z => (by cases z), by show 3 * (e0 + 0 + 0) + 0 ≤ p + 3 * c; omega, hc, hp, by show 0 + 0 ≤ 10; omega⟩
  exact ⟨M', e', T'.after F⟩
/-! the class's facts, pure -/
def stp (F : Nat → Int32) (s : Int32) (x : Int32) : Int32 := if F (x.toNatClampNeg + 1) ≤ nI (pc (s &&& F x.toNatClampNeg)) ∧ nI (pc (s &&& F x.toNatClampNeg)) ≤ F (x.toNatClampNeg + 2) then F (x.toNatClampNeg + 3) else F (x.toNatClampNeg + 4)
/-- so many steps, from here, to there -/
def Go (F : Nat → Int32) (s : Int32) : Nat → Int32 → Int32 → Prop
  | 0, a, b => a = b
  | i + 1, a, b => ¬ a < 0 ∧ Go F s i (stp F s a) b
theorem Go.trans {F : Nat → Int32} {s : Int32} : ∀ {i j : Nat} {a b c : Int32}, Go F s i a b → Go F s j b c → Go F s (i + j) a c
  | 0, j, a, b, c, h, q => by
    have h : a = b := h
    subst h
    rw [Nat.zero_add]; exact q
  | i + 1, j, a, b, c, h, q => by
    rw [show i + 1 + j = i + j + 1 by omega]
    exact ⟨h.1, Go.trans h.2 q⟩
theorem Go.ev {F : Nat → Int32} {s : Int32} (m : Nat) : ∀ {i : Nat} {a b : Int32}, Go F s i a b → evC F s (m + i) a = evC F s m b
  | 0, a, b, h => by
    have h : a = b := h
    subst h; rfl
  | i + 1, a, b, h => by
    show (if a < 0 then decide (a = -1) else evC F s (m + i) (stp F s a)) = _
    rw [if_neg h.1]
    exact Go.ev m h.2
theorem evC_neg {F : Nat → Int32} {s : Int32} (m : Nat) {b : Int32} (h : b < 0) : evC F s m b = decide (b = -1) := by
  cases m
  · rfl
  · show (if b < 0 then decide (b = -1) else _) = _
    rw [if_pos h]
/-- a piece of the test: facts from lo to hi, its open ends, what it says -/
def Pce (F : Nat → Int32) (lo hi : Nat) (ys ns : List Nat) (P : Prd) : Prop := (∀ c, c ∈ ys → 5 * lo ≤ c ∧ c < 5 * hi ∧ c ∉ ns) ∧ (∀ c, c ∈ ns → 5 * lo ≤ c ∧ c < 5 * hi) ∧ (ys.Nodup ∧ ns.Nodup ∧ ys ≠ [] ∧ ns ≠ []) ∧
  (∀ i, lo ≤ i → i < hi → ∀ c, (c = 5 * i + 3 ∨ c = 5 * i + 4) → c ∉ ys → c ∉ ns → ∃ j, lo ≤ j ∧ j < hi ∧ F c = nI (5 * j)) ∧
  ∀ (F' : Nat → Int32) (Y N : Int32), (∀ c, 5 * lo ≤ c → c < 5 * hi → F' c = if c ∈ ys then Y else if c ∈ ns then N else F c) → ∀ s, ∃ i, i ≤ hi - lo ∧ Go F' s i (nI (5 * lo)) (if P s = true then Y else N)
theorem Pce.cg {F G : Nat → Int32} {lo hi : Nat} {ys ns : List Nat} {P : Prd} (h : Pce F lo hi ys ns P) (c : ∀ x, 5 * lo ≤ x → x < 5 * hi → G x = F x) : Pce G lo hi ys ns P := by
  obtain ⟨h1, h2, h3, h4, h5⟩ := h
  refine ⟨h1, h2, h3, fun i a b x q y z => ?_, fun F' Y N e s => h5 F' Y N (fun x a b => by rw [e x a b, c x a b]) s⟩
  rw [c x (by omega) (by omega)]
  exact h4 i a b x q y z
theorem Pce.swap {F : Nat → Int32} {lo hi : Nat} {ys ns : List Nat} {P : Prd} (h : Pce F lo hi ys ns P) : Pce F lo hi ns ys (fun s => !(P s)) := by
  obtain ⟨h1, h2, ⟨n1, n2, n3, n4⟩, h4, h5⟩ := h
  refine ⟨fun c q => ⟨(h2 c q).1, (h2 c q).2, fun z => (h1 c z).2.2 q⟩, fun c q => ⟨(h1 c q).1, (h1 c q).2.1⟩, ⟨n2, n1, n4, n3⟩, fun i a b x q y z => h4 i a b x q z y, fun F' Y N e s => ?_⟩
  obtain ⟨i, hi, g⟩ := h5 F' N Y (fun c a b => by
    rw [e c a b]
    by_cases q : c ∈ ys
    · rw [if_pos q, if_pos q, if_neg (h1 c q).2.2]
    · rw [if_neg q, if_neg q]) s
  refine ⟨i, hi, ?_⟩
  have : (if (!(P s)) = true then Y else N) = (if P s = true then N else Y) := by cases P s <;> rfl
  rw [this]; exact g
theorem Pce.one {F : Nat → Int32} {lo : Nat} (hlo : 5 * lo < 2 ^ 30) {set a b : Int32} (e0 : F (5 * lo) = set) (e1 : F (5 * lo + 1) = a) (e2 : F (5 * lo + 2) = b) : Pce F lo (lo + 1) [5 * lo + 3] [5 * lo + 4] (fP set a b) := by
  refine ⟨fun c q => ?_, fun c q => ?_, ⟨by simp, by simp, by simp, by simp⟩, fun i h1 h2 c hc y z => ?_, fun F' Y N e s => ⟨1, by omega, nI_pos (by omega), ?_⟩⟩
  · rw [List.mem_singleton] at q; subst q
    exact ⟨by omega, by omega, by rw [List.mem_singleton]; omega⟩
  · rw [List.mem_singleton] at q; subst q
    exact ⟨by omega, by omega⟩
  · rw [List.mem_singleton] at y z
    omega
  · show stp F' s (nI (5 * lo)) = _
    have f0 : F' (5 * lo) = set := by rw [e _ (by omega) (by omega), if_neg (by rw [List.mem_singleton]; omega), if_neg (by rw [List.mem_singleton]; omega), e0]
    have f1 : F' (5 * lo + 1) = a := by rw [e _ (by omega) (by omega), if_neg (by rw [List.mem_singleton]; omega), if_neg (by rw [List.mem_singleton]; omega), e1]
    have f2 : F' (5 * lo + 2) = b := by rw [e _ (by omega) (by omega), if_neg (by rw [List.mem_singleton]; omega), if_neg (by rw [List.mem_singleton]; omega), e2]
    have f3 : F' (5 * lo + 3) = Y := by rw [e _ (by omega) (by omega), if_pos (List.mem_singleton.mpr rfl)]
    have f4 : F' (5 * lo + 4) = N := by rw [e _ (by omega) (by omega), if_neg (by rw [List.mem_singleton]; omega), if_pos (List.mem_singleton.mpr rfl)]
    unfold stp fP
    rw [nI_clamp (by omega), f0, f1, f2, f3, f4]
    by_cases q : a ≤ nI (pc (s &&& set)) ∧ nI (pc (s &&& set)) ≤ b
    · rw [if_pos q, decide_eq_true q, if_pos rfl]
    · rw [if_neg q, decide_eq_false q, if_neg Bool.false_ne_true]
theorem Pce.and {F G : Nat → Int32} {lo mid hi : Nat} {ya na yb nb : List Nat} {A B : Prd} (ha : Pce F lo mid ya na A) (hb : Pce F mid hi yb nb B) (h1 : lo < mid) (h2 : mid < hi) (ea : ∀ c, 5 * lo ≤ c → c < 5 * mid → G c = if c ∈ ya then nI (5 * mid) else F c) (eb : ∀ c, 5 * mid ≤ c → c < 5 * hi → c ∉ nb → G c = F c) : Pce G lo hi yb (nb ++ na) (fun s => A s && B s) := by
  obtain ⟨a1, a2, ⟨a31, a32, a33, a34⟩, a4, a5⟩ := ha
  obtain ⟨b1, b2, ⟨b31, b32, b33, b34⟩, b4, b5⟩ := hb
  refine ⟨fun c q => ?_, fun c q => ?_, ⟨b31, ?_, b33, fun z => b34 (List.append_eq_nil_iff.mp z).1⟩, fun i l u c q y z => ?_, fun F' Y N e s => ?_⟩
  · obtain ⟨q1, q2, q3⟩ := b1 c q
    refine ⟨by omega, q2, fun z => ?_⟩
    rcases List.mem_append.mp z with z | z
    · exact q3 z
    · have := a2 c z; omega
  · rcases List.mem_append.mp q with z | z
    · have := b2 c z; omega
    · have := a2 c z; omega
  · rw [List.nodup_append]
    refine ⟨b32, a32, fun x p y q r => ?_⟩
    subst r
    have := b2 x p; have := a2 x q; omega
  · have z1 : c ∉ nb := fun r => z (List.mem_append.mpr (Or.inl r))
    have z2 : c ∉ na := fun r => z (List.mem_append.mpr (Or.inr r))
    by_cases w : i < mid
    · rw [ea c (by omega) (by omega)]
      by_cases r : c ∈ ya
      · rw [if_pos r]; exact ⟨mid, by omega, by omega, rfl⟩
      · rw [if_neg r]
        obtain ⟨j, j1, j2, j3⟩ := a4 i l w c q r z2
        exact ⟨j, j1, by omega, j3⟩
    · rw [eb c (by omega) (by omega) z1]
      obtain ⟨j, j1, j2, j3⟩ := b4 i (by omega) u c q y z1
      exact ⟨j, by omega, j2, j3⟩
  · obtain ⟨i, i1, gi⟩ := a5 F' (nI (5 * mid)) N (fun c l u => by
      rw [e c l (by omega), if_neg (fun z => by have := b1 c z; omega)]
      by_cases r : c ∈ ya
      · rw [if_pos r, if_neg (fun z => ?_), ea c l u, if_pos r]
        rcases List.mem_append.mp z with z | z
        · have := b2 c z; omega
        · exact (a1 c r).2.2 z
      · rw [if_neg r]
        by_cases r2 : c ∈ na
        · rw [if_pos r2, if_pos (List.mem_append.mpr (Or.inr r2))]
        · rw [if_neg r2, if_neg (fun z => ?_), ea c l u, if_neg r]
          rcases List.mem_append.mp z with z | z
          · have := b2 c z; omega
          · exact r2 z) s
    obtain ⟨j, j1, gj⟩ := b5 F' Y N (fun c l u => by
      rw [e c (by omega) u]
      by_cases r : c ∈ yb
      · rw [if_pos r, if_pos r]
      · rw [if_neg r, if_neg r]
        by_cases r2 : c ∈ nb
        · rw [if_pos r2, if_pos (List.mem_append.mpr (Or.inl r2))]
        · rw [if_neg r2, if_neg (fun z => ?_), eb c l u r2]
          rcases List.mem_append.mp z with z | z
          · exact r2 z
          · have := a2 c z; omega) s
    cases hA : A s with
    | true =>
      rw [hA, if_pos rfl] at gi
      refine ⟨i + j, by omega, ?_⟩
      show Go F' s (i + j) _ (if (A s && B s) = true then Y else N)
      rw [hA, Bool.true_and]
      exact gi.trans gj
    | false =>
      rw [hA, if_neg Bool.false_ne_true] at gi
      refine ⟨i, by omega, ?_⟩
      show Go F' s i _ (if (A s && B s) = true then Y else N)
      rw [hA]
      exact gi
theorem Pce.or {F G : Nat → Int32} {lo mid hi : Nat} {ya na yb nb : List Nat} {A B : Prd} (ha : Pce F lo mid ya na A) (hb : Pce F mid hi yb nb B) (h1 : lo < mid) (h2 : mid < hi) (ea : ∀ c, 5 * lo ≤ c → c < 5 * mid → G c = if c ∈ na then nI (5 * mid) else F c) (eb : ∀ c, 5 * mid ≤ c → c < 5 * hi → c ∉ yb → G c = F c) : Pce G lo hi (yb ++ ya) nb (fun s => A s || B s) := by
  have := (ha.swap.and hb.swap h1 h2 ea eb).swap
  have e : (fun s => !((!(A s)) && (!(B s)))) = fun s => A s || B s := by
    funext s
    cases A s <;> cases B s <;> rfl
  rw [e] at this
  exact this
/-! chains of open ends -/
def chn (F : Nat → Int32) : Int32 → List Nat → Prop
  | h, [] => h = -1
  | h, c :: cs => h = nI c ∧ chn F (F c) cs
theorem chn_cg {F G : Nat → Int32} : ∀ (l : List Nat) (h : Int32), (∀ c, c ∈ l → G c = F c) → chn F h l → chn G h l
  | [], h, _, q => q
  | c :: cs, h, e, q => ⟨q.1, by rw [e c (by simp)]; exact chn_cg cs _ (fun x hx => e x (by simp [hx])) q.2⟩
theorem chn_app {F G : Nat → Int32} {v : Int32} {l2 : List Nat} : ∀ (l : List Nat) (h : Int32), l ≠ [] → l.Nodup → (∀ c, c ∈ l → c ∉ l2) → chn F h l → chn F v l2 → (∀ c, c ∈ l2 → G c = F c) → (∀ c, c ∈ l → c ≠ l.getLast! → G c = F c) → G l.getLast! = v → chn G h (l ++ l2)
  | [], h, ne, _, _, _, _, _, _, _ => absurd rfl ne
  | [c], h, _, _, d, q, q2, e2, _, e => by
    refine ⟨q.1, ?_⟩
    have e : G c = v := e
    rw [e]
    exact chn_cg l2 v e2 q2
  | c :: d :: cs, h, _, nd, dj, q, q2, e2, e1, e => by
    have nd' := List.nodup_cons.mp nd
    refine ⟨q.1, ?_⟩
    have L : (c :: d :: cs).getLast! = (d :: cs).getLast! := by simp [List.getLast!]
    have lm : (d :: cs).getLast! ∈ d :: cs := by
      have : (d :: cs).getLast! = (d :: cs).getLast (by simp) := rfl
      rw [this]; exact List.getLast_mem _
    rw [e1 c (by simp) (fun z => nd'.1 (by rw [z, L]; exact lm))]
    refine chn_app (d :: cs) _ (by simp) nd'.2 (fun x hx => dj x (List.mem_cons_of_mem _ hx)) q.2 q2 e2 (fun x hx z => e1 x (List.mem_cons_of_mem _ hx) (by rw [L]; exact z)) (by rw [← L]; exact e)
