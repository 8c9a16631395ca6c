/-! a test: what it says, pure -/
abbrev Prd : Type := Int32 → Bool
/-- so many of these rights -/
def fP (set lo hi : Int32) : Prd := fun s => decide (lo ≤ nI (pc (s &&& set)) ∧ nI (pc (s &&& set)) ≤ hi)
/-- least and most, by sign (60 less, 61 equal, 62 more), whether an equal sign is there, and the number -/
def loI (c : Nat) (eq : Bool) (n : Nat) : Int32 := if c = 60 then 0 else nI n + (if eq = true then 0 else 1)
def hiI (c : Nat) (eq : Bool) (n : Nat) : Int32 := if c = 62 then 24 else nI n - (if eq = true then 0 else 1)
/-- r: the place of the sign -/
def cmE (tp : Nat → Nat) (t r : Nat) : Bool := decide (sg tp t r ≠ 61 ∧ sg tp t (r + 1) = 61)
def cmN (tp : Nat → Nat) (t r : Nat) : Nat := if cmE tp t r = true then r + 2 else r + 1
def cmQ (tp : Nat → Nat) (t r : Nat) : Bool := decide (sg tp t r = 61) || cmE tp t r
def cmC (tp : Nat → Nat) (t r : Nat) (set : Int32) : Nat ⊕ (Nat × Int32 × Int32 × Int32) :=
  if sg tp t r = 60 ∨ sg tp t r = 61 ∨ sg tp t r = 62 then
    (if nmF tp t 24 (cmN tp t r) 0 = 0 then .inr (blk tp t (cmN tp t r) + (num tp t (blk tp t (cmN tp t r))).1, set, loI (sg tp t r) (cmQ tp t r) (num tp t (blk tp t (cmN tp t r))).2, hiI (sg tp t r) (cmQ tp t r) (num tp t (blk tp t (cmN tp t r))).2)
      else .inl (nmF tp t 24 (cmN tp t r) 0))
  else .inl (flt 0 r)
def cmR (tp : Nat → Nat) (t q : Nat) : Nat × Int32 := rts tp t 401 (blk tp t (q + 2)) 0
/-- what is compared: the fault, or the place behind it, rights, least, most; c: how many facts were told -/
def cmp (tp : Nat → Nat) (t q c : Nat) : Nat ⊕ (Nat × Int32 × Int32 × Int32) :=
  if inr 65 88 (sg tp t q) = true then (if c = 60 then .inl (flt 3 q) else .inr (q + 1, rb (sg tp t q), 1, 1))
  else if stw tp t q (wd 10) = true then (if c = 60 then .inl (flt 3 q) else
    if inr 65 88 (sg tp t (blk tp t (q + 2))) = true then cmC tp t (cmR tp t q).1 (cmR tp t q).2 else .inl (flt 0 (blk tp t (q + 2))))
  else .inl (flt 0 q)
/-- a row of what lies within one bracket: what stands left of an or, of an and, how many nots wait -/
abbrev Frm : Type := Option Prd × Option Prd × Nat
/-- place, the value that is read, the innermost row, the outer ones, facts told -/
abbrev TSt : Type := Nat × Option Prd × Frm × List Frm × Nat
def dpt : Frm → List Frm → Nat
  | f, [] => f.2.2
  | f, g :: gs => f.2.2 + 1 + dpt g gs
def negs : Nat → Prd → Prd
  | 0, w => w
  | k + 1, w => negs k (fun s => !(w s))
def andv (a : Option Prd) (w : Prd) : Prd := match a with
  | none => w
  | some x => fun s => x s && w s
def orv (a : Option Prd) (w : Prd) : Prd := match a with
  | none => w
  | some x => fun s => x s || w s
def tstep (tp : Nat → Nat) (t : Nat) (st : TSt) : Nat ⊕ (TSt ⊕ (Nat × Prd × Nat)) := match st with
  | (p, none, f, fs, c) =>
    if stw tp t (blk tp t p) (wd 9) = true then (if dpt f fs = 10 then .inl (flt 2 (blk tp t p)) else .inr (.inl (blk tp t p + 3, none, (f.1, f.2.1, f.2.2 + 1), fs, c)))
    else if sg tp t (blk tp t p) = 91 then (if dpt f fs = 10 then .inl (flt 2 (blk tp t p)) else .inr (.inl (blk tp t p + 1, none, (none, none, 0), f :: fs, c)))
    else match cmp tp t (blk tp t p) c with
      | .inl g => .inl g
      | .inr (p', set, lo, hi) => .inr (.inl (p', some (negs f.2.2 (fP set lo hi)), (f.1, f.2.1, 0), fs, c + 1))
  | (p, some w, f, fs, c) =>
    if stw tp t (blk tp t p) (wd 11) = true then .inr (.inl (blk tp t p + 3, none, (f.1, some (andv f.2.1 w), 0), fs, c))
    else if stw tp t (blk tp t p) (wd 12) = true then .inr (.inl (blk tp t p + 2, none, (some (orv f.1 (andv f.2.1 w)), none, 0), fs, c))
    else match fs with
      | [] => .inr (.inr (blk tp t p, orv f.1 (andv f.2.1 w), c))
      | g :: gs => if sg tp t (blk tp t p) = 93 then .inr (.inl (blk tp t p + 1, some (negs g.2.2 (orv f.1 (andv f.2.1 w))), (g.1, g.2.1, 0), gs, c)) else .inl (flt 0 (blk tp t p))
def trun (tp : Nat → Nat) (t : Nat) : Nat → TSt → Nat ⊕ (Nat × Prd × Nat)
  | 0, _ => .inl 0
  | n + 1, st => match tstep tp t st with
    | .inl g => .inl g
    | .inr (.inl st') => trun tp t n st'
    | .inr (.inr r) => .inr r
def tst (tp : Nat → Nat) (t p c : Nat) : Nat ⊕ (Nat × Prd × Nat) := trun tp t 402 (p, none, (none, none, 0), [], c)
/-! what waits: 3 not, 2 and, 1 or, 0 a bracket; the last first -/
def opF (f : Frm) : List Nat := List.replicate f.2.2 3 ++ ((if f.2.1.isSome = true then [2] else []) ++ (if f.1.isSome = true then [1] else []))
def ops : Frm → List Frm → List Nat
  | f, [] => opF f
  | f, g :: gs => opF f ++ 0 :: ops g gs
def pcF (f : Frm) : List Prd := (match f.2.1 with | some a => [a] | none => []) ++ (match f.1 with | some o => [o] | none => [])
def pcs : Frm → List Frm → List Prd
  | f, [] => pcF f
  | f, g :: gs => pcF f ++ pcs g gs
def nab : Frm → List Frm → Nat
  | f, [] => (opF f).length
  | f, g :: gs => (opF f).length + nab g gs
theorem opF_len (f : Frm) : (opF f).length = f.2.2 + (pcF f).length := by
  obtain ⟨o, a, k⟩ := f
  unfold opF pcF
  cases o <;> cases a <;> simp
theorem pcF_len (f : Frm) : (pcF f).length ≤ 2 := by
  obtain ⟨o, a, k⟩ := f
  unfold pcF
  cases o <;> cases a <;> simp
theorem ops_len : ∀ (fs : List Frm) (f : Frm), (ops f fs).length = dpt f fs + (pcs f fs).length
  | [], f => opF_len f
  | g :: gs, f => by
    unfold ops dpt pcs
    rw [List.length_append, List.length_append, List.length_cons, ops_len gs g, opF_len]
    omega
theorem pcs_len : ∀ (fs : List Frm) (f : Frm), (pcs f fs).length ≤ 2 * (fs.length + 1)
  | [], f => by have := pcF_len f; unfold pcs; simp; omega
  | g :: gs, f => by
    have := pcF_len f
    have := pcs_len gs g
    unfold pcs
    rw [List.length_append, List.length_cons]
    omega
theorem fs_dpt : ∀ (fs : List Frm) (f : Frm), fs.length + f.2.2 ≤ dpt f fs
  | [], f => by unfold dpt; simp
  | g :: gs, f => by
    have := fs_dpt gs g
    unfold dpt
    rw [List.length_cons]
    omega
theorem nab_eq : ∀ (fs : List Frm) (f : Frm), nab f fs + fs.length = (ops f fs).length
  | [], f => rfl
  | g :: gs, f => by
    have := nab_eq gs g
    unfold nab ops
    rw [List.length_append, List.length_cons, List.length_cons]
    omega
/-! rows of numbers that stand for what waits -/
def stA (A : Nat → Int32) (cd : Nat → Int32) : List Nat → Prop
  | [] => True
  | x :: xs => A xs.length = cd x ∧ stA A cd xs
theorem stA_cg {A B : Nat → Int32} {cd : Nat → Int32} : ∀ xs : List Nat, (∀ i, i < xs.length → B i = A i) → stA A cd xs → stA B cd xs
  | [], _, _ => trivial
  | x :: xs, h, q => ⟨by rw [h _ (by simp)]; exact q.1, stA_cg xs (fun i hi => h i (by simp; omega)) q.2⟩
theorem stA_push {A : Nat → Int32} {cd : Nat → Int32} {xs : List Nat} (h : stA A cd xs) (x : Nat) : stA (va_up A xs.length (cd x)) cd (x :: xs) := ⟨up_s _ _ _, stA_cg xs (fun i hi => up_n (by omega)) h⟩
def rcI (x : Nat) : Int32 := if x = 3 then 9 else if x = 2 then 10 else if x = 1 then 11 else 12
/-! what the reference's entries come to -/
def vst (g : Nat → Bool) : List Bool → Prop
  | [] => True
  | b :: bs => g bs.length = b ∧ vst g bs
theorem vst_cg {g h : Nat → Bool} : ∀ bs : List Bool, (∀ i, i < bs.length → h i = g i) → vst g bs → vst h bs
  | [], _, _ => trivial
  | b :: bs, e, q => ⟨by rw [e _ (by simp)]; exact q.1, vst_cg bs (fun i hi => e i (by simp; omega)) q.2⟩
def pQ (so : Nat → Int32) : Nat → Nat → Nat → Nat → Prop
  | 0, _, d, d' => d = d'
  | n + 1, e, d, d' => if so e = 9 then 1 ≤ d ∧ pQ so n (e + 1) d d' else if so e = 10 ∨ so e = 11 then 2 ≤ d ∧ pQ so n (e + 1) (d - 1) d' else pQ so n (e + 1) (d + 1) d'
theorem pQ_ok {so : Nat → Int32} : ∀ n e d, pQ so n e d 1 → pOK so n e d
  | 0, e, d, h => h
  | n + 1, e, d, h => by
    unfold pQ at h
    unfold pOK
    split
    · rename_i q; rw [if_pos q] at h; exact ⟨h.1, pQ_ok n _ _ h.2⟩
    · rename_i q
      rw [if_neg q] at h
      split
      · rename_i r; rw [if_pos r] at h; exact ⟨h.1, pQ_ok n _ _ h.2⟩
      · rename_i r; rw [if_neg r] at h; exact pQ_ok n _ _ h
theorem pQ_app {so : Nat → Int32} : ∀ n e d d1 d2, pQ so n e d d1 → pQ so 1 (e + n) d1 d2 → pQ so (n + 1) e d d2
  | 0, e, d, d1, d2, h, q => by
    have h : d = d1 := h
    rw [h]; exact q
  | n + 1, e, d, d1, d2, h, q => by
    unfold pQ at h
    rw [show e + (n + 1) = e + 1 + n by omega] at q
    show (if so e = 9 then 1 ≤ d ∧ pQ so (n + 1) (e + 1) d d2 else if so e = 10 ∨ so e = 11 then 2 ≤ d ∧ pQ so (n + 1) (e + 1) (d - 1) d2 else pQ so (n + 1) (e + 1) (d + 1) d2)
    split
    · rename_i z; rw [if_pos z] at h; exact ⟨h.1, pQ_app n _ _ _ _ h.2 q⟩
    · rename_i z
      rw [if_neg z] at h
      split
      · rename_i y; rw [if_pos y] at h; exact ⟨h.1, pQ_app n _ _ _ _ h.2 q⟩
      · rename_i y; rw [if_neg y] at h; exact pQ_app n _ _ _ _ h q
theorem pQ_cg {so so' : Nat → Int32} : ∀ n e d d', (∀ x, e ≤ x → x < e + n → so' x = so x) → pQ so n e d d' → pQ so' n e d d'
  | 0, _, _, _, _, h => h
  | n + 1, e, d, d', c, h => by
    have c0 := c e (Nat.le_refl _) (by omega)
    have ih := fun d => pQ_cg n (e + 1) d d' (fun x h1 h2 => c x (by omega) (by omega))
    unfold pQ at h ⊢
    rw [c0]
    split
    · rename_i z; rw [if_pos z] at h; exact ⟨h.1, ih _ h.2⟩
    · rename_i z
      rw [if_neg z] at h
      split
      · rename_i y; rw [if_pos y] at h; exact ⟨h.1, ih _ h.2⟩
      · rename_i y; rw [if_neg y] at h; exact ih _ h
theorem rE_app (so nu : Nat → Int32) (s : Int32) : ∀ n e st, rE so nu s (n + 1) e st = rStep (so (e + n)) (nu (e + n)) s (rE so nu s n e st)
  | 0, e, st => rfl
  | n + 1, e, st => by
    show rE so nu s (n + 1) (e + 1) (rStep (so e) (nu e) s st) = rStep (so (e + (n + 1))) (nu (e + (n + 1))) s (rE so nu s n (e + 1) (rStep (so e) (nu e) s st))
    rw [rE_app so nu s n (e + 1), show e + 1 + n = e + (n + 1) by omega]
def RQ (so nu : Nat → Int32) (a n : Nat) (ps : List Prd) : Prop := pQ so n a 0 ps.length ∧ ∀ s, (rE so nu s n a (0, fun _ => false)).1 = ps.length ∧ vst (rE so nu s n a (0, fun _ => false)).2 (ps.map (fun w => w s))
theorem RQ.nil (so nu : Nat → Int32) (a : Nat) : RQ so nu a 0 [] := ⟨rfl, fun _ => ⟨rfl, trivial⟩⟩
theorem RQ.cg {so nu so' nu' : Nat → Int32} {a n : Nat} {ps : List Prd} (h : RQ so nu a n ps) (c : ∀ x, a ≤ x → x < a + n → so' x = so x ∧ nu' x = nu x) : RQ so' nu' a n ps := by
  refine ⟨pQ_cg n a 0 _ (fun x h1 h2 => (c x h1 h2).1) h.1, fun s => ?_⟩
  rw [rE_cg n a _ c]
  exact h.2 s
theorem RQ.push {so nu : Nat → Int32} {a n : Nat} {ps : List Prd} (h : RQ so nu a n ps) {w : Prd} (k9 : so (a + n) ≠ 9) (k10 : so (a + n) ≠ 10) (k11 : so (a + n) ≠ 11) (hw : ∀ s, cntB (so (a + n)) (nu (a + n)) s = w s) : RQ so nu a (n + 1) (w :: ps) := by
  refine ⟨pQ_app n a 0 _ _ h.1 ?_, fun s => ?_⟩
  · unfold pQ
    rw [if_neg k9, if_neg (by rintro (z | z); exact k10 z; exact k11 z)]; rfl
  · obtain ⟨h1, h2⟩ := h.2 s
    rw [rE_app]
    unfold rStep
    rw [if_neg k9, if_neg k10, if_neg k11, h1, hw s]
    refine ⟨rfl, ?_, ?_⟩
    · show va_up _ ps.length (w s) (ps.map _).length = w s
      rw [List.length_map, up_s]
    · exact vst_cg _ (fun i hi => up_n (by rw [List.length_map] at hi; omega)) h2
theorem RQ.neg {so nu : Nat → Int32} {a n : Nat} {ps : List Prd} {w : Prd} (h : RQ so nu a n (w :: ps)) (k9 : so (a + n) = 9) : RQ so nu a (n + 1) ((fun s => !(w s)) :: ps) := by
  refine ⟨pQ_app n a 0 _ _ h.1 ?_, fun s => ?_⟩
  · unfold pQ
    rw [if_pos k9]; exact ⟨by simp, rfl⟩
  · obtain ⟨h1, h2, h3⟩ := h.2 s
    rw [rE_app]
    unfold rStep
    rw [if_pos k9, h1]
    rw [List.length_map] at h2
    refine ⟨rfl, ?_, ?_⟩
    · show va_up _ (ps.length + 1 - 1) _ (ps.map _).length = _
      rw [List.length_map, Nat.add_sub_cancel, up_s]
      have h2' : (rE so nu s n a (0, fun _ => false)).2 ps.length = w s := h2
      show (!((rE so nu s n a (0, fun _ => false)).2 ps.length)) = !(w s)
      rw [h2']
    · exact vst_cg _ (fun i hi => up_n (by rw [List.length_map] at hi; simp; omega)) h3
theorem RQ.bin {so nu : Nat → Int32} {a n : Nat} {ps : List Prd} {w v : Prd} (h : RQ so nu a n (w :: v :: ps)) : (so (a + n) = 10 → RQ so nu a (n + 1) ((fun s => v s && w s) :: ps)) ∧ (so (a + n) = 11 → RQ so nu a (n + 1) ((fun s => v s || w s) :: ps)) := by
  have base : ∀ s, (rE so nu s n a (0, fun _ => false)).1 = ps.length + 2 ∧ (rE so nu s n a (0, fun _ => false)).2 (ps.length + 1) = w s ∧ (rE so nu s n a (0, fun _ => false)).2 ps.length = v s ∧ vst (rE so nu s n a (0, fun _ => false)).2 (ps.map (fun w => w s)) := by
    intro s
    obtain ⟨h1, h2, h3, h4⟩ := h.2 s
    rw [List.length_map] at h3
    rw [List.map_cons, List.length_cons, List.length_map] at h2
    exact ⟨h1, h2, h3, h4⟩
  have fin : ∀ (s : Int32) (b : Bool), (ps.length + 2 - 1 = ps.length + 1) ∧ vst (va_up (rE so nu s n a (0, fun _ => false)).2 (ps.length + 2 - 2) b) (b :: ps.map (fun w => w s)) := by
    intro s b
    refine ⟨by omega, ?_, ?_⟩
    · rw [List.length_map, Nat.add_sub_cancel, up_s]
    · exact vst_cg _ (fun i hi => up_n (by rw [List.length_map] at hi; omega)) (base s).2.2.2
  constructor
  · intro k
    have k9 : so (a + n) ≠ 9 := by rw [k]; decide
    refine ⟨pQ_app n a 0 _ _ h.1 ?_, fun s => ?_⟩
    · unfold pQ
      rw [if_neg k9, if_pos (Or.inl k)]; exact ⟨by simp, by simp [pQ]⟩
    · obtain ⟨h1, h2, h3, h4⟩ := base s
      rw [rE_app]
      unfold rStep
      rw [if_neg k9, if_pos k, h1]
      have e1 : ps.length + 2 - 1 = ps.length + 1 := by omega
      have e2 : ps.length + 2 - 2 = ps.length := by omega
      have F := fin s (v s && w s)
      rw [e2] at F
      rw [e1, e2, h2, h3]
      exact ⟨rfl, F.2⟩
  · intro k
    have k9 : so (a + n) ≠ 9 := by rw [k]; decide
    have k10 : so (a + n) ≠ 10 := by rw [k]; decide
    refine ⟨pQ_app n a 0 _ _ h.1 ?_, fun s => ?_⟩
    · unfold pQ
      rw [if_neg k9, if_pos (Or.inr k)]; exact ⟨by simp, by simp [pQ]⟩
    · obtain ⟨h1, h2, h3, h4⟩ := base s
      rw [rE_app]
      unfold rStep
      rw [if_neg k9, if_neg k10, if_pos k, h1]
      have e1 : ps.length + 2 - 1 = ps.length + 1 := by omega
      have e2 : ps.length + 2 - 2 = ps.length := by omega
      have F := fin s (v s || w s)
      rw [e2] at F
      rw [e1, e2, h2, h3]
      exact ⟨rfl, F.2⟩
theorem RQ.one {so nu : Nat → Int32} {a n : Nat} {w : Prd} (h : RQ so nu a n [w]) : pOK so n a 0 ∧ ∀ s, rT so nu a (a + n) s = w s := by
  refine ⟨pQ_ok n a 0 h.1, fun s => ?_⟩
  unfold rT
  rw [show a + n - a = n by omega]
  exact (h.2 s).2.1
theorem negs_not (k : Nat) (w : Prd) : negs k (fun s => !(w s)) = fun s => !(negs k w s) := by
  induction k generalizing w with
  | zero => rfl
  | succ k ih => show negs k (fun s => !(!(w s))) = fun s => !(negs k (fun s => !(w s)) s); rw [ih (fun s => !(w s))]
