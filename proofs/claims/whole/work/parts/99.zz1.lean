/-! the reference's marks after mark; the tape under frames -/
theorem offs_le : ∀ o n : Nat, (o = 92 ∧ n = 4) ∨ (o = 93 ∧ n = 14400) ∨ (o = 94 ∧ n = 14400) ∨ (o = 95 ∧ n = 72) ∨ (96 ≤ o ∧ o ≤ 99 ∧ n = 864) ∨ (101 ≤ o ∧ o ≤ 102 ∧ n = 40) ∨ (o = 103 ∧ n = 24) ∨ (108 ≤ o ∧ o ≤ 110 ∧ n = 4000) ∨ (115 ≤ o ∧ o ≤ 117 ∧ n = 30) ∨ (o = 118 ∧ n = 720) → offs o + n ≤ 45256 := by
  intro o n h
  rcases h with ⟨rfl, rfl⟩ | ⟨rfl, rfl⟩ | ⟨rfl, rfl⟩ | ⟨rfl, rfl⟩ | ⟨a, b, rfl⟩ | ⟨a, b, rfl⟩ | ⟨rfl, rfl⟩ | ⟨a, b, rfl⟩ | ⟨a, b, rfl⟩ | ⟨rfl, rfl⟩
  · decide
  · decide
  · decide
  · decide
  · have : o = 96 ∨ o = 97 ∨ o = 98 ∨ o = 99 := by omega
    rcases this with rfl | rfl | rfl | rfl <;> decide
  · have : o = 101 ∨ o = 102 := by omega
    rcases this with rfl | rfl <;> decide
  · decide
  · have : o = 108 ∨ o = 109 ∨ o = 110 := by omega
    rcases this with rfl | rfl | rfl <;> decide
  · have : o = 115 ∨ o = 116 ∨ o = 117 := by omega
    rcases this with rfl | rfl | rfl <;> decide
  · decide
theorem SV.other {M M' : ej_Mem} {k j : Nat} {W : View} (hW : VOK W) (hj : j ≠ k) (e : ∀ i, (i < 46000 * k ∨ 46000 * k + 45256 ≤ i) → aI M' 119 i = aI M 119 i) (h : SV M j W) : SV M' j W := by
  have out : ∀ x, x < 45256 → aI M' 119 (46000 * j + x) = aI M 119 (46000 * j + x) := fun x hx => e _ (by omega)
  refine RV.cg hW (VAg.of hW (fun o n ho i hi => ?_) (fun i hi => ?_)) h
  · have q := offs_le o n ho
    show aI M' 119 (46000 * j + offs o + i) = aI M 119 (46000 * j + offs o + i)
    rw [Nat.add_assoc]
    exact out _ (by omega)
  · have s9 : scl i < 10 := by unfold scl; split <;> (try split) <;> omega
    exact out _ (by omega)
theorem RMk.mark {M M' : ej_Mem} {V : View} {mk : Nat → Option View} {k : Nat} (hV : VOK V) (s : SV M' k V) (e : ∀ i, (i < 46000 * k ∨ 46000 * k + 45256 ≤ i) → aI M' 119 i = aI M 119 i) (u : aI M' 121 = va_up (aI M 121) k 1) (h : RMk M mk) : RMk M' (mkU mk k (some V)) := by
  intro j hj
  unfold mkU
  by_cases q : j = k
  · rw [if_pos q, q]
    exact ⟨by rw [u, up_s], s, hV⟩
  · rw [if_neg q]
    have p := h j hj
    cases hm : mk j with
    | none => rw [hm] at p; show aI M' 121 j = 0; rw [u, up_n q]; exact p
    | some W =>
      rw [hm] at p
      exact ⟨by rw [u, up_n q]; exact p.1, p.2.1.other p.2.2 q e, p.2.2⟩
theorem TR.g {P : Nat → Nat → Prop} {M M' : ej_Mem} (f : FrG P M M') (hz : 122 ≤ mZ M) (hp : ∀ o k, P o k → o ≠ 91 ∧ (o = 90 → k ≠ 1)) {t : Nat} {tp : Nat → Nat} (h : TR M t tp) : TR M' t tp := ⟨h.1, by rw [(f.2.2 90 (by omega) 1 (fun q => (hp _ _ q).2 rfl rfl)).1]; exact h.2.1, fun k hk => by rw [(f.2.2 91 (by omega) k (fun q => (hp _ _ q).1 rfl)).2.2.2.1]; exact h.2.2 k hk⟩
/-! the state between two calls: what the class holds, what the reference holds -/
def SCR (L : Nat) (xs : Nat → Int32) (M : ej_Mem) : Prop := mC M 0 = 110 ∧ mN M 0 = L ∧ aI M 0 = xs
theorem SCR.g {P : Nat → Nat → Prop} {M M' : ej_Mem} {L : Nat} {xs : Nat → Int32} (f : FrG P M M') (hz : 122 ≤ mZ M) (hp : ∀ k, ¬ P 0 k) (h : SCR L xs M) : SCR L xs M' := ⟨by rw [(f.2.1 0 (by omega)).1]; exact h.1, by rw [(f.2.1 0 (by omega)).2]; exact h.2.1, by rw [(f.all (o := 0) ⟨by omega, hp⟩).2.2.2.1]; exact h.2.2⟩
/-- class: own V mk t z s; reference: V' mk' mn t' -/
def LWQ (L : Nat) (xs : Nat → Int32) (own : Nat → Nat) (V : View) (mk : Nat → Option View) (t : Nat) (tp : Nat → Nat) (z s : Nat) (V' : View) (mk' : Nat → Option View) (mn t' : Nat) (tp' : Nat → Nat) (M : ej_Mem) : Prop := CI M own V mk ∧ RM M z s ∧ TC M t tp ∧ KR M V' mn ∧ RMk M mk' ∧ TR M t' tp' ∧ STR M ∧ SCR L xs M
theorem LWQ.ci {L : Nat} {xs : Nat → Int32} {own : Nat → Nat} {V : View} {mk : Nat → Option View} {t : Nat} {tp : Nat → Nat} {z s : Nat} {V' : View} {mk' : Nat → Option View} {mn t' : Nat} {tp' : Nat → Nat} {M : ej_Mem} (h : LWQ L xs own V mk t tp z s V' mk' mn t' tp' M) : CI M own V mk := h.1
theorem LWQ.rm {L : Nat} {xs : Nat → Int32} {own : Nat → Nat} {V : View} {mk : Nat → Option View} {t : Nat} {tp : Nat → Nat} {z s : Nat} {V' : View} {mk' : Nat → Option View} {mn t' : Nat} {tp' : Nat → Nat} {M : ej_Mem} (h : LWQ L xs own V mk t tp z s V' mk' mn t' tp' M) : RM M z s := h.2.1
theorem LWQ.tc {L : Nat} {xs : Nat → Int32} {own : Nat → Nat} {V : View} {mk : Nat → Option View} {t : Nat} {tp : Nat → Nat} {z s : Nat} {V' : View} {mk' : Nat → Option View} {mn t' : Nat} {tp' : Nat → Nat} {M : ej_Mem} (h : LWQ L xs own V mk t tp z s V' mk' mn t' tp' M) : TC M t tp := h.2.2.1
theorem LWQ.kr {L : Nat} {xs : Nat → Int32} {own : Nat → Nat} {V : View} {mk : Nat → Option View} {t : Nat} {tp : Nat → Nat} {z s : Nat} {V' : View} {mk' : Nat → Option View} {mn t' : Nat} {tp' : Nat → Nat} {M : ej_Mem} (h : LWQ L xs own V mk t tp z s V' mk' mn t' tp' M) : KR M V' mn := h.2.2.2.1
theorem LWQ.mr {L : Nat} {xs : Nat → Int32} {own : Nat → Nat} {V : View} {mk : Nat → Option View} {t : Nat} {tp : Nat → Nat} {z s : Nat} {V' : View} {mk' : Nat → Option View} {mn t' : Nat} {tp' : Nat → Nat} {M : ej_Mem} (h : LWQ L xs own V mk t tp z s V' mk' mn t' tp' M) : RMk M mk' := h.2.2.2.2.1
theorem LWQ.tr {L : Nat} {xs : Nat → Int32} {own : Nat → Nat} {V : View} {mk : Nat → Option View} {t : Nat} {tp : Nat → Nat} {z s : Nat} {V' : View} {mk' : Nat → Option View} {mn t' : Nat} {tp' : Nat → Nat} {M : ej_Mem} (h : LWQ L xs own V mk t tp z s V' mk' mn t' tp' M) : TR M t' tp' := h.2.2.2.2.2.1
theorem LWQ.st {L : Nat} {xs : Nat → Int32} {own : Nat → Nat} {V : View} {mk : Nat → Option View} {t : Nat} {tp : Nat → Nat} {z s : Nat} {V' : View} {mk' : Nat → Option View} {mn t' : Nat} {tp' : Nat → Nat} {M : ej_Mem} (h : LWQ L xs own V mk t tp z s V' mk' mn t' tp' M) : STR M := h.2.2.2.2.2.2.1
theorem LWQ.sc {L : Nat} {xs : Nat → Int32} {own : Nat → Nat} {V : View} {mk : Nat → Option View} {t : Nat} {tp : Nat → Nat} {z s : Nat} {V' : View} {mk' : Nat → Option View} {mn t' : Nat} {tp' : Nat → Nat} {M : ej_Mem} (h : LWQ L xs own V mk t tp z s V' mk' mn t' tp' M) : SCR L xs M := h.2.2.2.2.2.2.2
theorem TC.tpo {M : ej_Mem} {t : Nat} {tp : Nat → Nat} (h : TC M t tp) : TPO t tp := ⟨h.1, h.2.1⟩
section
variable {L : Nat} {xs : Nat → Int32} {own own2 : Nat → Nat} {V V2 V' : View} {mk mk2 mk' : Nat → Option View} {t t2 t' : Nat} {tp tp2 tp' : Nat → Nat} {z s z2 s2 mn mn2 : Nat} {M M' : ej_Mem}
/-- a call of the class -/
theorem LWQ.cg (h : LWQ L xs own V mk t tp z s V' mk' mn t' tp' M) {P : Nat → Nat → Prop} (f : FrG P M M') (hp : ∀ o k, P o k → 59 ≤ o ∧ ¬ (90 ≤ o ∧ o ≤ 121)) (c : CI M' own2 V2 mk2) (T : TC M' t2 tp2) (R : RM M' z2 s2) : LWQ L xs own2 V2 mk2 t2 tp2 z2 s2 V' mk' mn t' tp' M' := by
  have hz : 122 ≤ mZ M := h.ci.1.2.2.1
  have n : N9 M M' := f.n9 hz (fun o k a b q => (hp o k q).2 ⟨a, b⟩)
  exact ⟨c, R, T, h.kr.n9 n, h.mr.n9 n, h.tr.n9 n, h.st.g f (by omega) (fun o k a q => by have := (hp o k q).1; omega), h.sc.g f hz (fun k q => by have := (hp 0 k q).1; omega)⟩
theorem P2_hi (hB : OwnB own M) : ∀ o k, P2 own o k → 59 ≤ o ∧ ¬ (90 ≤ o ∧ o ≤ 121) := fun o k q => by
  rcases q with q | q
  · refine ⟨?_, fun r => ?_⟩
    · rcases Nat.lt_or_ge o 59 with y | y
      · have := hB.2.1 o y; omega
      · exact y
    · have := hB.2.2.2.2.2 o r.1 r.2; omega
  · omega
theorem P2_tc (hB : OwnB own M) : ∀ o k, P2 own o k → o ≠ 60 ∧ (o = 59 → k ≠ 1) := fun o k q => by
  have a := hB.2.2.1 59 (by omega) (by omega)
  have b := hB.2.2.1 60 (by omega) (by omega)
  rcases q with q | q
  · exact ⟨fun r => by rw [r] at q; omega, fun r => by rw [r] at q; omega⟩
  · omega
/-- .. that makes no cell -/
theorem LWQ.c2 (h : LWQ L xs own V mk t tp z s V' mk' mn t' tp' M) {D m : Nat} {args : List Value} {v : Option Value} (e : cal D m args M = some (v, M')) (f : FrG (P2 own) M M') (K : KC M' own V2) (h1 : kG m = true) (h2 : qG m = true) (h3 : hG m = true) : LWQ L xs own V2 mk t tp z s V' mk' mn t' tp' M' := by
  have hB := h.ci.1.2.2.2.1
  obtain ⟨c, r⟩ := h.ci.step e f (P2_ok hB) K h1 h2 h3
  exact h.cg f (P2_hi hB) c (h.tc.g f h.ci.1.2.2.1 (P2_tc hB)) (r _ _ h.rm)
theorem LWQ.c7 (h : LWQ L xs own V mk t tp z s V' mk' mn t' tp' M) {D m : Nat} {args : List Value} {v : Option Value} (e : cal D m args M = some (v, M')) (f : FrG (P7 own) M M') (K : KC M' own V) (h1 : kG m = true) (h2 : qG m = true) (h3 : hG m = true) : LWQ L xs own V mk t tp z s V' mk' mn t' tp' M' := h.c2 e (f.mono (fun o k _ q => Or.inr q)) K h1 h2 h3
/-- a call of the reference -/
theorem LWQ.rg (h : LWQ L xs own V mk t tp z s V' mk' mn t' tp' M) {D m : Nat} {args : List Value} {v : Option Value} (e : cal D m args M = some (v, M')) {P : Nat → Nat → Prop} (f : FrG P M M') (hp : ∀ o k, P o k → 90 ≤ o ∧ o ≤ 121) (h1 : kG m = true) (K : KR M' V2 mn2) (R : RMk M' mk2) (T : TR M' t2 tp2) : LWQ L xs own V mk t tp z s V2 mk2 mn2 t2 tp2 M' := by
  have hz : 122 ≤ mZ M := h.ci.1.2.2.1
  obtain ⟨c, r⟩ := h.ci.ref e f hp h1
  exact ⟨c, r _ _ h.rm, h.tc.g f hz (fun o k q => by have := hp o k q; omega), K, R, T, h.st.g f (by omega) (fun o k a q => by have := (hp o k q).1; omega), h.sc.g f hz (fun k q => by have := (hp 0 k q).1; omega)⟩
theorem LWQ.r8 (h : LWQ L xs own V mk t tp z s V' mk' mn t' tp' M) {D m : Nat} {args : List Value} {v : Option Value} (e : cal D m args M = some (v, M')) (f : FrG P8 M M') (K : KR M' V2 mn2) (h1 : kG m = true) : LWQ L xs own V mk t tp z s V2 mk' mn2 t' tp' M' := by
  have hz : 122 ≤ mZ M := h.ci.1.2.2.1
  exact h.rg e f (fun o k q => by unfold P8 at q; omega) h1 K (h.mr.g f hz (fun o k q => by unfold P8 at q; omega)) (h.tr.g f hz (fun o k q => by unfold P8 at q; omega))
end
/-- before the n-th call -/
def LI (L : Nat) (xs : Nat → Int32) (n : Nat) (M : ej_Mem) : Prop := ∃ own V mk t tp z s mn, LWQ L xs own V mk t tp z s V mk mn t tp M ∧ mn ≤ 1024 * n ∧ z ≤ 1000 + 3 * n ∧ s ≤ 1000000 + 340 * n
