/-! the reference: a clause from its word on -/
def clk (tp : Nat → Nat) (t so n c : Nat) (sd sf : Bool) (T : Txt) (k p1 : Nat) : Nat ⊕ ClS :=
  if isTk so k = true then (match tst tp t p1 c with
      | .inl g => .inl g
      | .inr (p', w, c') => .inr (p', n + 1, c', sd, sf, xTst so w T))
    else if so = 1 ∨ k = 1 ∨ k = 2 then
      (if inr 65 88 (sg tp t (blk tp t p1)) = true then .inr ((rts tp t 401 (blk tp t p1) 0).1, n + 1, c, sd, sf, xSet so k (rts tp t 401 (blk tp t p1) 0).2 T)
        else .inl (flt 0 (blk tp t p1)))
    else if nmF tp t (mostN k) p1 0 = 0 then
      (if k = 6 then
        (if stw tp t (blk tp t (blk tp t p1 + (num tp t (blk tp t p1)).1)) (wd 13) = true then
          (match tst tp t (lwk tp t (blk tp t (blk tp t p1 + (num tp t (blk tp t p1)).1))) c with
            | .inl g => .inl g
            | .inr (p', w, c') => .inr (p', n + 1, c', sd, sf, xTrn (num tp t (blk tp t p1)).2 w T))
          else .inr (blk tp t (blk tp t p1 + (num tp t (blk tp t p1)).1), n + 1, c, sd, sf, xTrn (num tp t (blk tp t p1)).2 (fun _ => true) T))
        else .inr (blk tp t p1 + (num tp t (blk tp t p1)).1, n + 1, c, sd || decide (k = 3), sf || decide (k = 4), xNum k (num tp t (blk tp t p1)).2 T))
    else .inl (nmF tp t (mostN k) p1 0)
theorem cls_eq (tp : Nat → Nat) (t so p n c : Nat) (sd sf : Bool) (T : Txt) : cls tp t so (p, n, c, sd, sf, T) = (if wK tp t so (blk tp t p) = wN so then .inl (flt 0 (blk tp t p))
    else if n = 12 ∨ (so = 0 ∧ ((wK tp t so (blk tp t p) = 3 ∧ sd = true) ∨ (wK tp t so (blk tp t p) = 4 ∧ sf = true))) then .inl (flt 4 (blk tp t p)) else clk tp t so n c sd sf T (wK tp t so (blk tp t p)) (lwk tp t (blk tp t p))) := rfl
theorem rTs_at {A : Arr} {sl n e e' : Nat} (hn : n < 12) (he' : e' ≤ 200) (v8 : A 98 (12 * sl + n) = nI e) (v9 : A 99 (12 * sl + n) = nI e') (hee : e ≤ e') {w : Prd} (h : RQ (A 93) (A 94) (200 * sl + e) (e' - e) [w]) : rTs A (12 * sl + n) = w := by
  funext s
  unfold rTs
  rw [v8, v9, show (12 * sl + n) / 12 = sl by omega, nI_clamp (by omega), nI_clamp (by omega)]
  have := h.one.2 s
  rwa [show 200 * sl + e + (e' - e) = 200 * sl + e' by omega] at this
theorem RCs_pf {M : ej_Mem} {t : Nat} {tp : Nat → Nat} {so sl e p n c : Nat} {sd sf : Bool} {T : Txt} (h : RCs M t tp so sl e (p, n, c, sd, sf, T)) {q : Nat} (hq : p ≤ q) (hqt : q ≤ t) : RCs (pf 90 M q 0) t tp so sl e (q, n, c, sd, sf, T) := by
  obtain ⟨h1, ⟨a4, a5, a6, a7⟩, h3, h4, ⟨h5, h6, h7⟩, h8⟩ := h
  have h5 : 3 * e ≤ p + 3 * c := h5
  have F := pf_fr 90 M q 0
  exact ⟨RL.pf h1 q 0, ⟨by rw [F.i (by unfold Ppf; omega)]; exact a4, by rw [F.i (by unfold Ppf; omega)]; exact a5, by rw [F.i (by unfold Ppf; omega)]; exact a6, by rw [F.i (by unfold Ppf; omega)]; exact a7⟩, h3, h4, ⟨by show 3 * e ≤ q + 3 * c; omega, h6, hqt⟩, h8⟩
def Ptw (sl e n o j : Nat) : Prop := Pt sl e o j ∨ (o = 97 ∧ j = 12 * sl + n)
/-- all that a clause that ends well needs -/
theorem cl_fin {D : Nat} {M M2 M3 : ej_Mem} {t : Nat} {tp : Nat → Nat} {so sl e p n c k p1 : Nat} {sd sf : Bool} {T : Txt} (h : RCs M t tp so sl e (p, n, c, sd, sf, T)) (hs : so < 2) (hsl : sl < 72) (hn : n < 12) (hk : k < 7) (hM2 : M2 = clM M p1 (12 * sl + n) (nI k) e) {e' p' c' : Nat} {sd' sf' : Bool} {T' : Txt} {x : Int32} (F3 : Fr (Ptw sl e n) M2 M3) (H3 : RL M3 t tp p' 0) (i4 : mI M3 90 4 = nI sl) (i5 : mI M3 90 5 = nI e') (i6 : mI M3 90 6 = 0) (i7 : mI M3 90 7 = nI c') (he : e ≤ e') (hb : 3 * e' ≤ p' + 3 * c' ∧ c' ≤ 60 ∧ p' ≤ t) (w97 : aI M3 97 (12 * sl + n) = x) (hp : e < e' → pOK (aI M3 93) (e' - e) (200 * sl + e) 0) (hne : isTk so k = true → e < e') (hT : ∀ A : Arr, A 93 = aI M3 93 → A 94 = aI M3 94 → A 96 (12 * sl + n) = nI k → A 97 (12 * sl + n) = x → A 98 (12 * sl + n) = nI e → A 99 (12 * sl + n) = nI e' → rTxn A so sl n = T → rTxn A so sl (n + 1) = T') (hd : so = 0 → sd' = (sd || decide (k = 3)) ∧ sf' = (sf || decide (k = 4))) {l1 l2 l3 l4 l5 : Int32} : ∃ M', rn jm_Ref_clause (cal D) 283 [some (.ref 90), some (.int l1), some (.int l2), some (.int l3), some (.int l4), some (.int l5), some (.int (nI (12 * sl + n)))] [] M3 = some (none, M') ∧ ClG M M' t tp so sl (.inr (p', n + 1, c', sd', sf', T')) := by
  have t4 := H3.2.2.1.1.1
  have a := clM_a M p1 (12 * sl + n) (nI k) e
  have F2 := clM_fr (sl := sl) M p1 n hn (nI k) e
  rw [← hM2] at a F2
  have F3c : Fr (Pcl sl) M2 M3 := F3.mono (fun o j q => by unfold Ptw Pt at q; unfold Pcl Pt; omega)
  have F4 : Fr (fun o j => o = 99 ∧ j = 12 * sl + n) M3 (setA M3 99 (12 * sl + n) (mI M3 90 5)) := Fr.setA (P := fun o j => o = 99 ∧ j = 12 * sl + n) M3 _ ⟨rfl, rfl⟩
  have v99 : aI (setA M3 99 (12 * sl + n) (mI M3 90 5)) 99 (12 * sl + n) = nI e' := by rw [gA_s, i5]
  refine ⟨_, r_cl283 (cal D) H3.1 (by omega), (F2.trans F3c).trans (F4.mono (fun o j q => Or.inr ⟨by omega, by omega, by omega⟩)), e', ?_⟩
  generalize setA M3 99 (12 * sl + n) (mI M3 90 5) = M4 at *
  have s9 : ∀ o j, ¬ (o = 99 ∧ j = 12 * sl + n) → aI M4 o j = aI M3 o j := fun o j q => F4.a q
  have s3 : ∀ o j, ¬ Ptw sl e n o j → aI M3 o j = aI M2 o j := fun o j q => F3.a q
  have e96 : aI M4 96 (12 * sl + n) = nI k := by rw [s9 _ _ (by omega), s3 _ _ (by unfold Ptw Pt; omega), a.1, up_s]
  have e98 : aI M4 98 (12 * sl + n) = nI e := by rw [s9 _ _ (by omega), s3 _ _ (by unfold Ptw Pt; omega), a.2.2.1, up_s]
  have e97 : aI M4 97 (12 * sl + n) = x := by rw [s9 _ _ (by omega)]; exact w97
  have S : SAg (aI M) (aI M4) sl n e := by
    refine ⟨fun i hi => ⟨?_, ?_, ?_, ?_⟩, fun y l u => ⟨?_, ?_⟩⟩
    · rw [s9 _ _ (by omega), s3 _ _ (by unfold Ptw Pt; omega), a.1, up_n (by omega)]
    · rw [s9 _ _ (by omega), s3 _ _ (by unfold Ptw Pt; omega), a.2.1, up_n (by omega)]
    · rw [s9 _ _ (by omega), s3 _ _ (by unfold Ptw Pt; omega), a.2.2.1, up_n (by omega)]
    · rw [s9 _ _ (by omega), s3 _ _ (by unfold Ptw Pt; omega), a.2.2.2 99 (by decide) (by decide) (by decide)]
    · rw [s9 _ _ (by omega), s3 _ _ (by unfold Ptw Pt; omega), a.2.2.2 93 (by decide) (by decide) (by decide)]
    · rw [s9 _ _ (by omega), s3 _ _ (by unfold Ptw Pt; omega), a.2.2.2 94 (by decide) (by decide) (by decide)]
  have f93 : aI M4 93 = aI M3 93 := F4.af (fun j => by omega)
  have f94 : aI M4 94 = aI M3 94 := F4.af (fun j => by omega)
  exact h.add hs hsl hn ((F2.trans F3c).trans (F4.mono (fun o j q => Or.inr ⟨by omega, by omega, by omega⟩))) S (H3.keep F4 (fun o j q => by omega)) (by rw [F4.i (by omega)]; exact i4) (by rw [F4.i (by omega)]; exact i5) (by rw [F4.i (by omega)]; exact i6) (by rw [F4.i (by omega)]; exact i7) he (by omega) hb k e96 hk e98 v99 (by rw [f93]; exact hp) hne (hT (aI M4) f93 f94 e96 e97 e98 v99) hd
theorem cl_dead {D : Nat} {M M2 M3 : ej_Mem} {t : Nat} {tp : Nat → Nat} {so sl n g : Nat} (hsl : sl < 72) (hn : n < 12) (F2 : Fr (Pcl sl) M M2) (F3 : Fr (Pcl sl) M2 M3) (h : RDd M3 t tp g) {l1 l2 l3 l4 l5 : Int32} : ∃ M', rn jm_Ref_clause (cal D) 283 [some (.ref 90), some (.int l1), some (.int l2), some (.int l3), some (.int l4), some (.int l5), some (.int (nI (12 * sl + n)))] [] M3 = some (none, M') ∧ ClG M M' t tp so sl (.inl g) := by
  have W : RW M3 := by obtain ⟨_, _, p, _, H⟩ := h; exact H.1
  exact ⟨_, r_cl283 (cal D) W (by omega), (F2.trans F3).trans (Fr.setA (P := Pcl sl) M3 _ (Or.inr ⟨by omega, by omega, by omega⟩)), h.set (by decide) _⟩
