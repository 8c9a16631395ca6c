/-! what a slice holds -/
def offs (o : Nat) : Nat := if o = 92 then 10 else if o = 93 then 14 else if o = 94 then 14414 else if o = 95 then 28814 else if o = 96 then 28886 else if o = 97 then 29750 else if o = 98 then 30614 else if o = 99 then 31478 else if o = 101 then 32342 else if o = 102 then 32382 else if o = 103 then 32422 else if o = 108 then 32446 else if o = 109 then 36446 else if o = 110 then 40446 else if o = 115 then 44446 else if o = 116 then 44476 else if o = 117 then 44506 else if o = 118 then 44536 else 45256
def scl (i : Nat) : Nat := if i = 9 then 0 else if i = 47 then 8 else i - 30
def slA (M : ej_Mem) (k : Nat) : Arr := fun o j => aI M 119 (46000 * k + offs o + j)
def slF (M : ej_Mem) (k : Nat) : Nat → Int32 := fun i => aI M 119 (46000 * k + scl i)
def SV (M : ej_Mem) (k : Nat) (W : View) : Prop := RV (slA M k) (slF M k) W
theorem VAg.of {V : View} {A B : Arr} {f g : Nat → Int32} (hV : VOK V) (h : ∀ o n, (o = 92 ∧ n = 4) ∨ (o = 93 ∧ n = 14400) ∨ (o = 94 ∧ n = 14400) ∨ (o = 95 ∧ n = 72) ∨ (96 ≤ o ∧ o ≤ 99 ∧ n = 864) ∨ (101 ≤ o ∧ o ≤ 102 ∧ n = 40) ∨ (o = 103 ∧ n = 24) ∨ (108 ≤ o ∧ o ≤ 110 ∧ n = 4000) ∨ (115 ≤ o ∧ o ≤ 117 ∧ n = 30) ∨ (o = 118 ∧ n = 720) → ∀ j, j < n → B o j = A o j) (hf : ∀ i, i = 9 ∨ (31 ≤ i ∧ i ≤ 37) ∨ i = 47 → g i = f i) : VAg V A B f g := by
  have l0 := hV.le (show 0 < 4 by decide)
  have h30 := hV.2.2.2.1.1
  have lb : (vB V).1.length ≤ 4000 := by
    rcases hV.2.2.2.2.1 with q | q
    · rw [q]; exact Nat.zero_le _
    · exact q.1.2.1
  have sl : ∀ k, k < 4 → ∀ i, i < vN V k → pl k + i < 72 := fun k hk i hi => pl_mst hk (Nat.lt_of_lt_of_le hi (hV.1 k hk))
  refine ⟨fun k hk => h 92 4 (by omega) k hk, fun k hk i hi => ?_, fun m hm => ⟨h 101 40 (by omega) m (by omega), h 102 40 (by omega) m (by omega)⟩, fun r hr => h 103 24 (by omega) r hr, fun r hr => ⟨h 115 30 (by omega) r (by omega), h 116 30 (by omega) r (by omega), h 117 30 (by omega) r (by omega), fun j hj => h 118 720 (by omega) _ (by omega)⟩, fun k hk => ⟨h 108 4000 (by omega) k (by omega), h 109 4000 (by omega) k (by omega), h 110 4000 (by omega) k (by omega)⟩,
    hf 9 (by omega), hf 31 (by omega), hf 32 (by omega), hf 33 (by omega), hf 34 (by omega), hf 35 (by omega), hf 36 (by omega), hf 37 (by omega), hf 47 (by omega)⟩
  have s72 := sl k hk i hi
  exact ⟨h 95 72 (by omega) _ s72, fun q q1 q2 => ⟨h 96 864 (by omega) q (by omega), h 97 864 (by omega) q (by omega), h 98 864 (by omega) q (by omega), h 99 864 (by omega) q (by omega)⟩, fun e e1 e2 => ⟨h 93 14400 (by omega) e (by omega), h 94 14400 (by omega) e (by omega)⟩⟩
/-- to a slice -/
theorem SV.store {M0 M' : ej_Mem} {V : View} {k off : Nat} (hV : VOK V) (r : RV (aI M0) (mI M0 90) V) (C : CS M0 M' (46000 * k) off sl19) (h120 : ∀ i, i = 9 ∨ (31 ≤ i ∧ i ≤ 37) ∨ i = 47 → aI M0 120 (scl i) = mI M0 90 i) : SV M' k V := by
  have g : ∀ x, x ∈ sl19 → ∀ j, j < x.2.2 → aI M' 119 (46000 * k + x.2.1 + j) = aI M0 x.1 j := fun x hx => (C.2.2.2.2.1 x hx).2
  refine r.cg hV (VAg.of hV (fun o n ho j hj => ?_) (fun i hi => ?_))
  · rcases ho with ⟨rfl, rfl⟩ | ⟨rfl, rfl⟩ | ⟨rfl, rfl⟩ | ⟨rfl, rfl⟩ | ⟨a, b, rfl⟩ | ⟨a, b, rfl⟩ | ⟨rfl, rfl⟩ | ⟨a, b, rfl⟩ | ⟨a, b, rfl⟩ | ⟨rfl, rfl⟩
    · exact g (92, 10, 4) (by decide) j hj
    · exact g (93, 14, 14400) (by decide) j hj
    · exact g (94, 14414, 14400) (by decide) j hj
    · exact g (95, 28814, 72) (by decide) j hj
    · have : o = 96 ∨ o = 97 ∨ o = 98 ∨ o = 99 := by omega
      rcases this with rfl | rfl | rfl | rfl
      · exact g (96, 28886, 864) (by decide) j hj
      · exact g (97, 29750, 864) (by decide) j hj
      · exact g (98, 30614, 864) (by decide) j hj
      · exact g (99, 31478, 864) (by decide) j hj
    · have : o = 101 ∨ o = 102 := by omega
      rcases this with rfl | rfl
      · exact g (101, 32342, 40) (by decide) j hj
      · exact g (102, 32382, 40) (by decide) j hj
    · exact g (103, 32422, 24) (by decide) j hj
    · have : o = 108 ∨ o = 109 ∨ o = 110 := by omega
      rcases this with rfl | rfl | rfl
      · exact g (108, 32446, 4000) (by decide) j hj
      · exact g (109, 36446, 4000) (by decide) j hj
      · exact g (110, 40446, 4000) (by decide) j hj
    · have : o = 115 ∨ o = 116 ∨ o = 117 := by omega
      rcases this with rfl | rfl | rfl
      · exact g (115, 44446, 30) (by decide) j hj
      · exact g (116, 44476, 30) (by decide) j hj
      · exact g (117, 44506, 30) (by decide) j hj
    · exact g (118, 44536, 720) (by decide) j hj
  · have s9 : scl i < 10 := by unfold scl; split <;> (try split) <;> omega
    have := g (120, 0, 10) (by decide) (scl i) s9
    exact this.trans (h120 i hi)
