/-- from a slice -/
theorem SV.load {M0 M' M2 : ej_Mem} {V : View} {k off : Nat} (hV : VOK V) (r : SV M0 k V) (C : CL M0 M' (46000 * k) off sl19) (hA : aI M2 = aI M') (hf : ∀ i, i = 9 ∨ (31 ≤ i ∧ i ≤ 37) ∨ i = 47 → mI M2 90 i = aI M' 120 (scl i)) : RV (aI M2) (mI M2 90) V := by
  have g : ∀ x, x ∈ sl19 → ∀ j, j < x.2.2 → aI M2 x.1 j = aI M0 119 (46000 * k + x.2.1 + j) := fun x hx => by rw [hA]; exact C.2.2.2.2.2 x hx
  refine RV.cg hV (VAg.of hV (fun o n ho j hj => ?_) (fun i hi => ?_)) r
  · rcases ho with ⟨rfl, rfl⟩ | ⟨rfl, rfl⟩ | ⟨rfl, rfl⟩ | ⟨rfl, rfl⟩ | ⟨a, b, rfl⟩ | ⟨a, b, rfl⟩ | ⟨rfl, rfl⟩ | ⟨a, b, rfl⟩ | ⟨a, b, rfl⟩ | ⟨rfl, rfl⟩
    · exact g (92, 10, 4) (by decide) j hj
    · exact g (93, 14, 14400) (by decide) j hj
    · exact g (94, 14414, 14400) (by decide) j hj
    · exact g (95, 28814, 72) (by decide) j hj
    · have : o = 96 ∨ o = 97 ∨ o = 98 ∨ o = 99 := by omega
      rcases this with rfl | rfl | rfl | rfl
      · exact g (96, 28886, 864) (by decide) j hj
      · exact g (97, 29750, 864) (by decide) j hj
      · exact g (98, 30614, 864) (by decide) j hj
      · exact g (99, 31478, 864) (by decide) j hj
    · have : o = 101 ∨ o = 102 := by omega
      rcases this with rfl | rfl
      · exact g (101, 32342, 40) (by decide) j hj
      · exact g (102, 32382, 40) (by decide) j hj
    · exact g (103, 32422, 24) (by decide) j hj
    · have : o = 108 ∨ o = 109 ∨ o = 110 := by omega
      rcases this with rfl | rfl | rfl
      · exact g (108, 32446, 4000) (by decide) j hj
      · exact g (109, 36446, 4000) (by decide) j hj
      · exact g (110, 40446, 4000) (by decide) j hj
    · have : o = 115 ∨ o = 116 ∨ o = 117 := by omega
      rcases this with rfl | rfl | rfl
      · exact g (115, 44446, 30) (by decide) j hj
      · exact g (116, 44476, 30) (by decide) j hj
      · exact g (117, 44506, 30) (by decide) j hj
    · exact g (118, 44536, 720) (by decide) j hj
  · have s9 : scl i < 10 := by unfold scl; split <;> (try split) <;> omega
    have := g (120, 0, 10) (by decide) (scl i) s9
    rw [hA] at this
    exact (hf i hi).trans this
