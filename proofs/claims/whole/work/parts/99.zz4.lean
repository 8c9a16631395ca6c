/-! the constructors (written by wip/gen/ci.py) -/
def newz (M : ej_Mem) (z kd n sl : Nat) : ej_Mem := (va_up M.1 z kd, va_up M.2.1 z n, va_up M.2.2.1 z (fun _ => 0), va_up M.2.2.2.1 z (fun _ => 0), va_up M.2.2.2.2.1 z (fun _ => none), va_up M.2.2.2.2.2.1 z (fun _ => 0), va_up M.2.2.2.2.2.2.1 z (fun _ => none), z + 1, mS M + sl)
theorem newz_e {M : ej_Mem} {z : Nat} (h : mZ M = z) (kd n sl : Nat) : newM M kd n sl = newz M z kd n sl := by subst h; rfl
theorem newzR {M : ej_Mem} {z : Nat} (h : mZ M = z) (kd n sl o f : Nat) : setR (newM M kd n sl) o f (some (mZ M)) = setR (newz M z kd n sl) o f (some z) := by subst h; rfl
theorem deR_e {q : Option Nat} {a : Nat} (h : q = some a) (k : Nat → Option ej_R) : deR q k = k a := by subst h; rfl
theorem FrG.newz {P : Nat → Nat → Prop} {M : ej_Mem} {z : Nat} (h : mZ M = z) (kd n sl : Nat) : FrG P M (newz M z kd n sl) := by rw [← newz_e h]; exact FrG.new P M kd n sl
def rI (M : ej_Mem) : ej_Mem := (setR (newz (setR (newz (setR (newz (setR (newz (setR (newz (setR (newz (setR (newz (setR (newz (setR (newz (setI (setI (setI (setR (newz (setR (newz (setR (newz (setR (newz (setR (newz (setR (newz (setR (newz (setR (newz (setR (newz (setR (newz (setR (newz (setR (newz (setR (newz (setR (newz (setR (newz (setR (newz (setR (newz (setR (newz (setR (newz (setR (newz (setR (newz (setR (newz (newz M 90 9 0 59) 91 101 400 400) 90 10 (some 91)) 92 100 4 4) 90 11 (some 92)) 93 100 14400 14400) 90 12 (some 93)) 94 100 14400 14400) 90 13 (some 94)) 95 100 72 72) 90 14 (some 95)) 96 100 864 864) 90 15 (some 96)) 97 100 864 864) 90 16 (some 97)) 98 100 864 864) 90 17 (some 98)) 99 100 864 864) 90 18 (some 99)) 100 100 402 402) 90 19 (some 100)) 101 100 40 40) 90 20 (some 101)) 102 100 40 40) 90 21 (some 102)) 103 100 24 24) 90 22 (some 103)) 104 102 200 200) 90 23 (some 104)) 105 100 16384 16384) 90 24 (some 105)) 106 100 16384 16384) 90 25 (some 106)) 107 100 16384 16384) 90 26 (some 107)) 108 100 4000 4000) 90 28 (some 108)) 109 100 4000 4000) 90 29 (some 109)) 110 100 4000 4000) 90 30 (some 110)) 111 100 500 500) 90 38 (some 111)) 112 100 500 500) 90 39 (some 112)) 90 40 (-1)) 90 41 (-1)) 90 42 (-1)) 113 100 500 500) 90 45 (some 113)) 114 102 500 500) 90 46 (some 114)) 115 100 30 30) 90 48 (some 115)) 116 100 30 30) 90 49 (some 116)) 117 100 30 30) 90 50 (some 117)) 118 100 720 720) 90 51 (some 118)) 119 100 184000 184000) 90 54 (some 119)) 120 100 10 10) 90 55 (some 120)) 121 102 4 4) 90 56 (some 121))
theorem ri_loop (cl : Nat → List Value → ej_Mem → Option ej_R) : ∀ (j k : Nat) (M : ej_Mem), k + j = 24 → mC M 90 = 9 → mR M 90 22 = some 103 → mC M 103 = 100 → mN M 103 = 24 → ∃ M', rn jm_Ref_init cl 287 [some (.ref 90), some (.int (nI k))] [] M = some (none, M') ∧ Fr (fun o _ => o = 103) M M' ∧ (∀ q, q < k → aI M' 103 q = aI M 103 q) ∧ ∀ q, k ≤ q → q < 24 → aI M' 103 q = -1
  | 0, k, M, hk, h1, h2, h3, h4 => ⟨M, by rw [eq_Ref_init_287, show k = 24 by omega, if_pos (by decide)], Fr.refl _ M, fun q _ => rfl, fun q a b => by omega⟩
  | j + 1, k, M, hk, h1, h2, h3, h4 => by
    have f1 : Fr (fun o _ => o = 103) M (setA M 103 k (-1)) := Fr.setA (P := fun o _ => o = 103) M _ rfl
    obtain ⟨M', e, f, u, g⟩ := ri_loop cl j (k + 1) (setA M 103 k (-1)) (by omega) h1 h2 h3 h4
    refine ⟨M', ?_, f1.trans f, fun q a => ?_, fun q a b => ?_⟩
    · rw [eq_Ref_init_287, if_neg (show ¬ (24 : Int32) ≤ nI k from nI_ge (a := k) (b := 24) (by omega) (by decide)), ckk_t h1, h2, deR_s, ckk_t h3, h4, ckb_n (by omega) (by decide), nI_clamp (by omega), nI_1]
      exact e
    · rw [u q (by omega)]
      show (va_up (aI M 103) k (-1)) q = _
      exact up_n (by omega)
    · rcases Nat.lt_or_ge k q with y | y
      · exact g q (by omega) b
      · obtain rfl : q = k := by omega
        rw [u q (by omega)]
        show (va_up (aI M 103) q (-1)) q = _
        exact up_s _ _ _
theorem p_refInit0 {D : Nat} (hD : 1 ≤ D) {M : ej_Mem} (hz : mZ M = 90) : cal D jm_Ref_init [.ref 90] (newM M 9 0 59) = rn jm_Ref_init (cal (D - 1)) 287 [some (.ref 90), some (.int (nI 0))] [] (rI M) := by
  obtain ⟨d, rfl⟩ : ∃ d, D = d + 1 := ⟨D - 1, by omega⟩
  rw [Nat.add_sub_cancel]
  obtain ⟨c, n, i, l, r, a, p, z, s⟩ := M
  obtain rfl : z = 90 := hz
  unfold rI
  rw [ca_Ref_init, newz_e (z := 90) (by rfl)]
  rw [eq_Ref_init_0, show Int32.toNatClampNeg 400 = 400 from by decide, ckk_t (by decide), ckk_t (by rfl), newzR (z := 91) (by rfl)]
  rw [eq_Ref_init_13, show Int32.toNatClampNeg 4 = 4 from by decide, ckk_t (by decide), ckk_t (by rfl), newzR (z := 92) (by rfl)]
  rw [eq_Ref_init_20, show Int32.toNatClampNeg 14400 = 14400 from by decide, ckk_t (by decide), ckk_t (by rfl), newzR (z := 93) (by rfl)]
  rw [eq_Ref_init_29, show Int32.toNatClampNeg 14400 = 14400 from by decide, ckk_t (by decide), ckk_t (by rfl), newzR (z := 94) (by rfl)]
  rw [eq_Ref_init_38, show Int32.toNatClampNeg 72 = 72 from by decide, ckk_t (by decide), ckk_t (by rfl), newzR (z := 95) (by rfl)]
  rw [eq_Ref_init_46, show Int32.toNatClampNeg 864 = 864 from by decide, ckk_t (by decide), ckk_t (by rfl), newzR (z := 96) (by rfl)]
  rw [eq_Ref_init_55, show Int32.toNatClampNeg 864 = 864 from by decide, ckk_t (by decide), ckk_t (by rfl), newzR (z := 97) (by rfl)]
  rw [eq_Ref_init_64, show Int32.toNatClampNeg 864 = 864 from by decide, ckk_t (by decide), ckk_t (by rfl), newzR (z := 98) (by rfl)]
  rw [eq_Ref_init_73, show Int32.toNatClampNeg 864 = 864 from by decide, ckk_t (by decide), ckk_t (by rfl), newzR (z := 99) (by rfl)]
  rw [eq_Ref_init_82, show Int32.toNatClampNeg 402 = 402 from by decide, ckk_t (by decide), ckk_t (by rfl), newzR (z := 100) (by rfl)]
  rw [eq_Ref_init_91, show Int32.toNatClampNeg 40 = 40 from by decide, ckk_t (by decide), ckk_t (by rfl), newzR (z := 101) (by rfl)]
  rw [eq_Ref_init_99, show Int32.toNatClampNeg 40 = 40 from by decide, ckk_t (by decide), ckk_t (by rfl), newzR (z := 102) (by rfl)]
  rw [eq_Ref_init_107, show Int32.toNatClampNeg 24 = 24 from by decide, ckk_t (by decide), ckk_t (by rfl), newzR (z := 103) (by rfl)]
  rw [eq_Ref_init_115, show Int32.toNatClampNeg 200 = 200 from by decide, ckk_t (by decide), ckk_t (by rfl), newzR (z := 104) (by rfl)]
  rw [eq_Ref_init_124, show Int32.toNatClampNeg 16384 = 16384 from by decide, ckk_t (by decide), ckk_t (by rfl), newzR (z := 105) (by rfl)]
  rw [eq_Ref_init_133, show Int32.toNatClampNeg 16384 = 16384 from by decide, ckk_t (by decide), ckk_t (by rfl), newzR (z := 106) (by rfl)]
  rw [eq_Ref_init_142, show Int32.toNatClampNeg 16384 = 16384 from by decide, ckk_t (by decide), ckk_t (by rfl), newzR (z := 107) (by rfl)]
  rw [eq_Ref_init_151, show Int32.toNatClampNeg 4000 = 4000 from by decide, ckk_t (by decide), ckk_t (by rfl), newzR (z := 108) (by rfl)]
  rw [eq_Ref_init_160, show Int32.toNatClampNeg 4000 = 4000 from by decide, ckk_t (by decide), ckk_t (by rfl), newzR (z := 109) (by rfl)]
  rw [eq_Ref_init_169, show Int32.toNatClampNeg 4000 = 4000 from by decide, ckk_t (by decide), ckk_t (by rfl), newzR (z := 110) (by rfl)]
  rw [eq_Ref_init_178, show Int32.toNatClampNeg 500 = 500 from by decide, ckk_t (by decide), ckk_t (by rfl), newzR (z := 111) (by rfl)]
  rw [eq_Ref_init_187, show Int32.toNatClampNeg 500 = 500 from by decide, ckk_t (by decide), ckk_t (by rfl), newzR (z := 112) (by rfl)]
  rw [eq_Ref_init_196, ckk_t (by rfl)]
  rw [eq_Ref_init_201, ckk_t (by rfl)]
  rw [eq_Ref_init_206, ckk_t (by rfl)]
  rw [eq_Ref_init_211, show Int32.toNatClampNeg 500 = 500 from by decide, ckk_t (by decide), ckk_t (by rfl), newzR (z := 113) (by rfl)]
  rw [eq_Ref_init_220, show Int32.toNatClampNeg 500 = 500 from by decide, ckk_t (by decide), ckk_t (by rfl), newzR (z := 114) (by rfl)]
  rw [eq_Ref_init_229, show Int32.toNatClampNeg 30 = 30 from by decide, ckk_t (by decide), ckk_t (by rfl), newzR (z := 115) (by rfl)]
  rw [eq_Ref_init_237, show Int32.toNatClampNeg 30 = 30 from by decide, ckk_t (by decide), ckk_t (by rfl), newzR (z := 116) (by rfl)]
  rw [eq_Ref_init_245, show Int32.toNatClampNeg 30 = 30 from by decide, ckk_t (by decide), ckk_t (by rfl), newzR (z := 117) (by rfl)]
  rw [eq_Ref_init_253, show Int32.toNatClampNeg 720 = 720 from by decide, ckk_t (by decide), ckk_t (by rfl), newzR (z := 118) (by rfl)]
  rw [eq_Ref_init_262, show Int32.toNatClampNeg 184000 = 184000 from by decide, ckk_t (by decide), ckk_t (by rfl), newzR (z := 119) (by rfl)]
  rw [eq_Ref_init_270, show Int32.toNatClampNeg 10 = 10 from by decide, ckk_t (by decide), ckk_t (by rfl), newzR (z := 120) (by rfl)]
  rw [eq_Ref_init_278, show Int32.toNatClampNeg 4 = 4 from by decide, ckk_t (by decide), ckk_t (by rfl), newzR (z := 121) (by rfl)]
  rw [eq_Ref_init_285]
  rfl
theorem rI_g {M : ej_Mem} (hz : mZ M = 90) : FrG (fun o _ => 90 ≤ o) M (rI M) := by
  obtain ⟨c, n, i, l, r, a, p, z, s⟩ := M
  obtain rfl : z = 90 := hz
  unfold rI
  exact ((((((((((((((((((((((((((((((((((((((((((((((((((((((((((((((((((((((((((((((((((((((((((((((((((((((((((((((((((((((((((((((((((((FrG.refl _ _).trans (FrG.newz rfl _ _ _))).trans (FrG.newz rfl _ _ _))).trans (FrG.setR _ _ (by decide)))).trans (FrG.newz rfl _ _ _))).trans (FrG.setR _ _ (by decide)))).trans (FrG.newz rfl _ _ _))).trans (FrG.setR _ _ (by decide)))).trans (FrG.newz rfl _ _ _))).trans (FrG.setR _ _ (by decide)))).trans (FrG.newz rfl _ _ _))).trans (FrG.setR _ _ (by decide)))).trans (FrG.newz rfl _ _ _))).trans (FrG.setR _ _ (by decide)))).trans (FrG.newz rfl _ _ _))).trans (FrG.setR _ _ (by decide)))).trans (FrG.newz rfl _ _ _))).trans (FrG.setR _ _ (by decide)))).trans (FrG.newz rfl _ _ _))).trans (FrG.setR _ _ (by decide)))).trans (FrG.newz rfl _ _ _))).trans (FrG.setR _ _ (by decide)))).trans (FrG.newz rfl _ _ _))).trans (FrG.setR _ _ (by decide)))).trans (FrG.newz rfl _ _ _))).trans (FrG.setR _ _ (by decide)))).trans (FrG.newz rfl _ _ _))).trans (FrG.setR _ _ (by decide)))).trans (FrG.newz rfl _ _ _))).trans (FrG.setR _ _ (by decide)))).trans (FrG.newz rfl _ _ _))).trans (FrG.setR _ _ (by decide)))).trans (FrG.newz rfl _ _ _))).trans (FrG.setR _ _ (by decide)))).trans (FrG.newz rfl _ _ _))).trans (FrG.setR _ _ (by decide)))).trans (FrG.newz rfl _ _ _))).trans (FrG.setR _ _ (by decide)))).trans (FrG.newz rfl _ _ _))).trans (FrG.setR _ _ (by decide)))).trans (FrG.newz rfl _ _ _))).trans (FrG.setR _ _ (by decide)))).trans (FrG.newz rfl _ _ _))).trans (FrG.setR _ _ (by decide)))).trans (FrG.newz rfl _ _ _))).trans (FrG.setR _ _ (by decide)))).trans (FrG.setI _ _ (by decide)))).trans (FrG.setI _ _ (by decide)))).trans (FrG.setI _ _ (by decide)))).trans (FrG.newz rfl _ _ _))).trans (FrG.setR _ _ (by decide)))).trans (FrG.newz rfl _ _ _))).trans (FrG.setR _ _ (by decide)))).trans (FrG.newz rfl _ _ _))).trans (FrG.setR _ _ (by decide)))).trans (FrG.newz rfl _ _ _))).trans (FrG.setR _ _ (by decide)))).trans (FrG.newz rfl _ _ _))).trans (FrG.setR _ _ (by decide)))).trans (FrG.newz rfl _ _ _))).trans (FrG.setR _ _ (by decide)))).trans (FrG.newz rfl _ _ _))).trans (FrG.setR _ _ (by decide)))).trans (FrG.newz rfl _ _ _))).trans (FrG.setR _ _ (by decide)))).trans (FrG.newz rfl _ _ _))).trans (FrG.setR _ _ (by decide)))
set_option maxRecDepth 100000 in
theorem rI_w {M : ej_Mem} (hz : mZ M = 90) : RW (rI M) := by
  obtain ⟨c, n, i, l, r, a, p, z, s⟩ := M
  obtain rfl : z = 90 := hz
  unfold rI RW
  exact ⟨rfl, rfl, rfl, rfl, rfl, rfl, rfl, rfl, rfl, rfl, rfl, rfl, rfl, rfl, rfl, rfl, rfl, rfl, rfl, rfl, rfl, rfl, rfl, rfl, rfl, rfl, rfl, rfl, rfl, rfl, rfl, rfl, rfl, rfl, rfl, rfl, rfl, rfl, rfl, rfl, rfl, rfl, rfl, rfl, rfl, rfl, rfl, rfl, rfl, rfl, rfl, rfl, rfl, rfl, rfl, rfl, rfl, rfl, rfl, rfl, rfl, rfl, rfl, rfl, rfl, rfl, rfl, rfl, rfl, rfl, rfl, rfl, rfl, rfl, rfl, rfl, rfl, rfl, rfl, rfl, rfl, rfl, rfl, rfl, rfl, rfl, rfl, rfl, rfl, rfl, rfl, rfl, rfl, rfl⟩
theorem mS_nR (M : ej_Mem) (z kd n o f : Nat) (v : Option Nat) : mS (setR (newz M z kd n n) o f v) = mS M + n := by unfold setR newz; exact id rfl
theorem mS_sI (M : ej_Mem) (o f : Nat) (v : Int32) : mS (setI M o f v) = mS M := by unfold setI; exact id rfl
theorem rI_z (M : ej_Mem) : mZ (rI M) = 122 := rfl
theorem rI_s (M : ej_Mem) : mS (rI M) ≤ mS M + 300000 := by
  unfold rI
  rw [mS_nR, mS_nR, mS_nR, mS_nR, mS_nR, mS_nR, mS_nR, mS_nR, mS_nR, mS_sI, mS_sI, mS_sI, mS_nR, mS_nR, mS_nR, mS_nR, mS_nR, mS_nR, mS_nR, mS_nR, mS_nR, mS_nR, mS_nR, mS_nR, mS_nR, mS_nR, mS_nR, mS_nR, mS_nR, mS_nR, mS_nR, mS_nR, mS_nR, mS_nR]
  have : mS (newz M 90 9 0 59) = mS M + 59 := by unfold newz; exact id rfl
  rw [this]
  generalize mS M = s
  omega
set_option maxRecDepth 100000 in
theorem rI_i {M : ej_Mem} (hz : mZ M = 90) : (mI (rI M) 90 1 = 0 ∧ mI (rI M) 90 9 = 0 ∧ mI (rI M) 90 27 = 0 ∧ mI (rI M) 90 31 = 0 ∧ mI (rI M) 90 32 = 0 ∧ mI (rI M) 90 33 = 0 ∧ mI (rI M) 90 37 = 0 ∧ mI (rI M) 90 47 = 0) ∧ (mI (rI M) 90 40 = -1 ∧ mI (rI M) 90 41 = -1 ∧ mI (rI M) 90 42 = -1) ∧ (aI (rI M) 92 = fun _ => 0) ∧ (aI (rI M) 106 = fun _ => 0) ∧ (aI (rI M) 121 = fun _ => 0) ∧ mR (rI M) 90 22 = some 103 ∧ mC (rI M) 103 = 100 ∧ mN (rI M) 103 = 24 := by
  obtain ⟨c, n, i, l, r, a, p, z, s⟩ := M
  obtain rfl : z = 90 := hz
  exact ⟨⟨rfl, rfl, rfl, rfl, rfl, rfl, rfl, rfl⟩, ⟨rfl, rfl, rfl⟩, rfl, rfl, rfl, rfl, rfl, rfl⟩
def sA (M : ej_Mem) : ej_Mem := (newz (setI (setR (newz (newz M 59 8 0 9) 60 100 400 400) 59 0 (some 60)) 59 1 0) 61 0 0 17)
def sK (M : ej_Mem) : ej_Mem := (setR (setI (setR (newz (setR (newz (setR (newz (setI (setI (setI (setR (newz (setI (setR (newz (setI (setR (newz (setI (setI (setI (setI M 61 1 0) 61 2 0) 61 3 0) 61 4 0) 62 100 300 300) 61 5 (some 62)) 61 6 0) 63 100 24 24) 61 7 (some 63)) 61 8 0) 64 100 40 40) 61 9 (some 64)) 61 10 0) 61 11 0) 61 12 0) 65 100 40 40) 61 13 (some 65)) 66 100 40 40) 61 14 (some 66)) 67 100 40 40) 61 15 (some 67)) 61 16 0) 61 0 (some 60))
def sB (M : ej_Mem) : ej_Mem := setR (sK (sA M)) 59 2 (some 61)
theorem p_clerkInit {D : Nat} (hD : 1 ≤ D) {M : ej_Mem} (hz : mZ M = 59) : cal D jm_Clerk_init [.ref 61, .ref 60] (sA M) = some (none, sK (sA M)) := by
  obtain ⟨d, rfl⟩ : ∃ d, D = d + 1 := ⟨D - 1, by omega⟩
  obtain ⟨c, n, i, l, r, a, p, z, s⟩ := M
  obtain rfl : z = 59 := hz
  unfold sK sA
  rw [ca_Clerk_init]
  rw [eq_Clerk_init_0, ckk_t (by rfl)]
  rw [eq_Clerk_init_9, ckk_t (by rfl)]
  rw [eq_Clerk_init_14, ckk_t (by rfl)]
  rw [eq_Clerk_init_19, ckk_t (by rfl)]
  rw [eq_Clerk_init_24, show Int32.toNatClampNeg 300 = 300 from by decide, ckk_t (by decide), ckk_t (by rfl), newzR (z := 62) (by rfl)]
  rw [eq_Clerk_init_33, ckk_t (by rfl)]
  rw [eq_Clerk_init_38, show Int32.toNatClampNeg 24 = 24 from by decide, ckk_t (by decide), ckk_t (by rfl), newzR (z := 63) (by rfl)]
  rw [eq_Clerk_init_46, ckk_t (by rfl)]
  rw [eq_Clerk_init_51, show Int32.toNatClampNeg 40 = 40 from by decide, ckk_t (by decide), ckk_t (by rfl), newzR (z := 64) (by rfl)]
  rw [eq_Clerk_init_59, ckk_t (by rfl)]
  rw [eq_Clerk_init_64, ckk_t (by rfl)]
  rw [eq_Clerk_init_69, ckk_t (by rfl)]
  rw [eq_Clerk_init_74, show Int32.toNatClampNeg 40 = 40 from by decide, ckk_t (by decide), ckk_t (by rfl), newzR (z := 65) (by rfl)]
  rw [eq_Clerk_init_82, show Int32.toNatClampNeg 40 = 40 from by decide, ckk_t (by decide), ckk_t (by rfl), newzR (z := 66) (by rfl)]
  rw [eq_Clerk_init_90, show Int32.toNatClampNeg 40 = 40 from by decide, ckk_t (by decide), ckk_t (by rfl), newzR (z := 67) (by rfl)]
  rw [eq_Clerk_init_98, ckk_t (by rfl)]
  rw [eq_Clerk_init_103, ckk_t (by rfl), eq_Clerk_init_108]
theorem p_suitA {d : Nat} (hd : 1 ≤ d) {M : ej_Mem} (hz : mZ M = 59) : rn jm_Suit_init (cal d) 0 [some (.ref 59)] [] (newM M 8 0 9) = rn jm_Suit_init (cal d) 33 [some (.ref 59)] [] (sB M) := by
  have K := p_clerkInit hd hz
  unfold sB
  unfold sA at K ⊢
  obtain ⟨c, n, i, l, r, a, p, z, s⟩ := M
  obtain rfl : z = 59 := hz
  rw [newz_e (z := 59) (by rfl)]
  rw [eq_Suit_init_0, show Int32.toNatClampNeg 400 = 400 from by decide, ckk_t (by decide), ckk_t (by rfl), newzR (z := 60) (by rfl)]
  rw [eq_Suit_init_13, ckk_t (by rfl)]
  rw [eq_Suit_init_18, ckk_t (by rfl), newz_e (z := 61) (by rfl), deR_e (a := 60) (by rfl)]
  refine Eq.trans (congrArg (fun x => bkV x _) K) ?_
  rw [bkV_s, ckk_t (by rfl)]
  rfl
theorem sB_g {M : ej_Mem} (hz : mZ M = 59) : FrG (fun o _ => 59 ≤ o) M (sB M) := by
  obtain ⟨c, n, i, l, r, a, p, z, s⟩ := M
  obtain rfl : z = 59 := hz
  unfold sB sK sA
  exact ((((((((((((((((((((((((((((((((((((((((((((((((((((((((((FrG.refl _ _).trans (FrG.newz rfl _ _ _))).trans (FrG.newz rfl _ _ _))).trans (FrG.setR _ _ (by decide)))).trans (FrG.setI _ _ (by decide)))).trans (FrG.newz rfl _ _ _))).trans (FrG.setI _ _ (by decide)))).trans (FrG.setI _ _ (by decide)))).trans (FrG.setI _ _ (by decide)))).trans (FrG.setI _ _ (by decide)))).trans (FrG.newz rfl _ _ _))).trans (FrG.setR _ _ (by decide)))).trans (FrG.setI _ _ (by decide)))).trans (FrG.newz rfl _ _ _))).trans (FrG.setR _ _ (by decide)))).trans (FrG.setI _ _ (by decide)))).trans (FrG.newz rfl _ _ _))).trans (FrG.setR _ _ (by decide)))).trans (FrG.setI _ _ (by decide)))).trans (FrG.setI _ _ (by decide)))).trans (FrG.setI _ _ (by decide)))).trans (FrG.newz rfl _ _ _))).trans (FrG.setR _ _ (by decide)))).trans (FrG.newz rfl _ _ _))).trans (FrG.setR _ _ (by decide)))).trans (FrG.newz rfl _ _ _))).trans (FrG.setR _ _ (by decide)))).trans (FrG.setI _ _ (by decide)))).trans (FrG.setR _ _ (by decide)))).trans (FrG.setR _ _ (by decide)))
theorem sB_f {M : ej_Mem} (hz : mZ M = 59) : (mZ (sB M) = 68 ∧ mS (sB M) = mS M + 910) ∧ (mC (sB M) 59 = 8 ∧ mC (sB M) 60 = 100 ∧ mC (sB M) 61 = 0 ∧ mC (sB M) 62 = 100 ∧ mC (sB M) 63 = 100 ∧ mC (sB M) 64 = 100 ∧ mC (sB M) 65 = 100 ∧ mC (sB M) 66 = 100 ∧ mC (sB M) 67 = 100) ∧ (mN (sB M) 60 = 400 ∧ mN (sB M) 62 = 300 ∧ mN (sB M) 63 = 24 ∧ mN (sB M) 64 = 40 ∧ mN (sB M) 65 = 40 ∧ mN (sB M) 66 = 40 ∧ mN (sB M) 67 = 40) ∧ (mR (sB M) 59 0 = some 60 ∧ mR (sB M) 59 2 = some 61 ∧ mR (sB M) 61 0 = some 60 ∧ mR (sB M) 61 5 = some 62 ∧ mR (sB M) 61 7 = some 63 ∧ mR (sB M) 61 9 = some 64 ∧ mR (sB M) 61 13 = some 65 ∧ mR (sB M) 61 14 = some 66 ∧ mR (sB M) 61 15 = some 67) ∧ mI (sB M) 59 1 = 0 := by
  obtain ⟨c, n, i, l, r, a, p, z, s⟩ := M
  obtain rfl : z = 59 := hz
  exact ⟨⟨rfl, rfl⟩, ⟨rfl, rfl, rfl, rfl, rfl, rfl, rfl, rfl, rfl⟩, ⟨rfl, rfl, rfl, rfl, rfl, rfl, rfl⟩, ⟨rfl, rfl, rfl, rfl, rfl, rfl, rfl, rfl, rfl⟩, rfl⟩
def tmI (M : ej_Mem) (a : Nat) : ej_Mem := setI (setI (setL (setR (setR M a 0 none) a 1 none) a 2 0) a 3 0) a 4 65535
theorem p_termsInit {D : Nat} (hD : 1 ≤ D) {M : ej_Mem} {a : Nat} (h : mC M a = 6) : cal D jm_Terms_init [.ref a] M = some (none, tmI M a) := by
  obtain ⟨d, rfl⟩ : ∃ d, D = d + 1 := ⟨D - 1, by omega⟩
  rw [ca_Terms_init, eq_Terms_init_0, ckk_t h, eq_Terms_init_9, ckk_t (by exact h), eq_Terms_init_14, ckk_t (by exact h), eq_Terms_init_19, ckk_t (by exact h), eq_Terms_init_24, ckk_t (by exact h), eq_Terms_init_30]
  rfl
theorem tmI_g {M : ej_Mem} {a : Nat} {P : Nat → Nat → Prop} (h : ∀ k, P a k) : FrG P M (tmI M a) := ((((FrG.setR (P := P) M _ (h 0)).trans (FrG.setR (P := P) _ _ (h 1))).trans (FrG.setL (P := P) _ _ (h 2))).trans (FrG.setI (P := P) _ _ (h 3))).trans (FrG.setI (P := P) _ _ (h 4))
def sC (M : ej_Mem) : ej_Mem := setR (tmI (newz (setR (newz M 79 104 4 4) 59 4 (some 79)) 80 6 0 5) 80) 59 5 (some 80)
theorem p_suitC {d : Nat} (hd : 1 ≤ d) {M : ej_Mem} (hz : mZ M = 79) (hc : mC M 59 = 8) : rn jm_Suit_init (cal d) 44 [some (.ref 59)] [] M = rn jm_Suit_init (cal d) 63 [some (.ref 59)] [] (sC M) := by
  unfold sC
  obtain ⟨c, n, i, l, r, a, p, z, s⟩ := M
  obtain rfl : z = 79 := hz
  have h1 : c 59 = 8 := hc
  rw [eq_Suit_init_44, show Int32.toNatClampNeg 4 = 4 from by decide, ckk_t (by decide), ckk_t (by exact h1), newzR (z := 79) (by rfl)]
  rw [eq_Suit_init_52, newz_e (z := 80) (by rfl)]
  refine Eq.trans (congrArg (fun x => bkV x _) (p_termsInit hd (by rfl))) ?_
  rw [bkV_s, ckk_t (by exact h1)]
  rfl
theorem sC_g {M : ej_Mem} (hz : mZ M = 79) : FrG (fun o k => 79 ≤ o ∨ (o = 59 ∧ 4 ≤ k)) M (sC M) := by
  obtain ⟨c, n, i, l, r, a, p, z, s⟩ := M
  obtain rfl : z = 79 := hz
  unfold sC
  exact ((((FrG.newz rfl _ _ _).trans (FrG.setR _ _ (by decide))).trans (FrG.newz rfl _ _ _)).trans (tmI_g (fun k => Or.inl (by decide)))).trans (FrG.setR _ _ (by decide))
theorem sC_f {M : ej_Mem} (hz : mZ M = 79) : (mZ (sC M) = 81 ∧ mS (sC M) = mS M + 9) ∧ (mC (sC M) 79 = 104 ∧ mC (sC M) 80 = 6 ∧ mN (sC M) 79 = 4 ∧ mR (sC M) 59 4 = some 79 ∧ mR (sC M) 59 5 = some 80 ∧ aR (sC M) 79 = fun _ => none) := by
  obtain ⟨c, n, i, l, r, a, p, z, s⟩ := M
  obtain rfl : z = 79 := hz
  exact ⟨⟨rfl, rfl⟩, rfl, rfl, rfl, rfl, rfl, rfl⟩
/-! 85 .. 89 -/
def sE1 (M : ej_Mem) : ej_Mem := setR (newz (setR (newz (newz M 85 5 0 2) 86 100 500 500) 85 0 (some 86)) 87 102 500 500) 85 1 (some 87)
theorem p_scalInit {D : Nat} (hD : 1 ≤ D) {M : ej_Mem} (hz : mZ M = 85) : cal D jm_Scal_init [.ref 85] (newM M 5 0 2) = some (none, sE1 M) := by
  obtain ⟨d, rfl⟩ : ∃ d, D = d + 1 := ⟨D - 1, by omega⟩
  unfold sE1
  obtain ⟨c, n, i, l, r, a, p, z, s⟩ := M
  obtain rfl : z = 85 := hz
  rw [ca_Scal_init, newz_e (z := 85) (by rfl)]
  rw [eq_Scal_init_0, show Int32.toNatClampNeg 500 = 500 from by decide, ckk_t (by decide), ckk_t (by rfl), newzR (z := 86) (by rfl)]
  rw [eq_Scal_init_13, show Int32.toNatClampNeg 500 = 500 from by decide, ckk_t (by decide), ckk_t (by rfl), newzR (z := 87) (by rfl), eq_Scal_init_22]
def sE2 (M : ej_Mem) : ej_Mem := setI (setI (setI (setI (setI (setR (tmI (newz (newz M 88 2 0 6) 89 6 0 5) 89) 88 0 (some 89)) 88 1 0) 88 2 0) 88 3 0) 88 4 0) 88 5 0
theorem p_judgInit {D : Nat} (hD : 2 ≤ D) {M : ej_Mem} (hz : mZ M = 88) : cal D jm_Judg_init [.ref 88] (newM M 2 0 6) = some (none, sE2 M) := by
  obtain ⟨d, rfl⟩ : ∃ d, D = d + 1 := ⟨D - 1, by omega⟩
  unfold sE2
  obtain ⟨c, n, i, l, r, a, p, z, s⟩ := M
  obtain rfl : z = 88 := hz
  rw [ca_Judg_init, newz_e (z := 88) (by rfl), eq_Judg_init_0, newz_e (z := 89) (by rfl)]
  refine Eq.trans (congrArg (fun x => bkV x _) (p_termsInit (by omega : 1 ≤ d) (by rfl))) ?_
  rw [bkV_s, ckk_t (by rfl)]
  rw [eq_Judg_init_15, ckk_t (by rfl), eq_Judg_init_20, ckk_t (by rfl), eq_Judg_init_25, ckk_t (by rfl), eq_Judg_init_30, ckk_t (by rfl), eq_Judg_init_35, ckk_t (by rfl), eq_Judg_init_40]
  rfl
def sE (M : ej_Mem) : ej_Mem := setR (sE2 (setR (sE1 M) 59 7 (some 85))) 59 8 (some 88)
theorem p_suitE {d : Nat} (hd : 2 ≤ d) {M : ej_Mem} (hz : mZ M = 85) (hc : mC M 59 = 8) : rn jm_Suit_init (cal d) 79 [some (.ref 59)] [] M = some (none, sE M) := by
  have z2 : mZ (setR (sE1 M) 59 7 (some 85)) = 88 := rfl
  have c1 : mC (sE1 M) 59 = 8 := hc
  have c2 : mC (sE2 (setR (sE1 M) 59 7 (some 85))) 59 = 8 := hc
  rw [eq_Suit_init_79, hz, p_scalInit (by omega) hz, bkV_s, ckk_t c1, eq_Suit_init_90, z2, p_judgInit hd z2, bkV_s, ckk_t c2, eq_Suit_init_101]
  rfl
theorem sE_g {M : ej_Mem} (hz : mZ M = 85) : FrG (fun o k => 85 ≤ o ∨ (o = 59 ∧ 7 ≤ k)) M (sE M) := by
  obtain ⟨c, n, i, l, r, a, p, z, s⟩ := M
  obtain rfl : z = 85 := hz
  unfold sE sE2 sE1
  exact ((((((((((((((FrG.newz rfl _ _ _).trans (FrG.newz rfl _ _ _)).trans (FrG.setR _ _ (by decide))).trans (FrG.newz rfl _ _ _)).trans (FrG.setR _ _ (by decide))).trans (FrG.setR _ _ (by decide))).trans (FrG.newz rfl _ _ _)).trans (FrG.newz rfl _ _ _)).trans (tmI_g (fun k => Or.inl (by decide)))).trans (FrG.setR _ _ (by decide))).trans (FrG.setI _ _ (by decide))).trans (FrG.setI _ _ (by decide))).trans (FrG.setI _ _ (by decide))).trans (FrG.setI _ _ (by decide))).trans (FrG.setI _ _ (by decide)) |>.trans (FrG.setR _ _ (by decide))
theorem sE_f {M : ej_Mem} (hz : mZ M = 85) : (mZ (sE M) = 90 ∧ mS (sE M) = mS M + 1013) ∧ (mC (sE M) 85 = 5 ∧ mC (sE M) 86 = 100 ∧ mC (sE M) 87 = 102 ∧ mC (sE M) 88 = 2 ∧ mC (sE M) 89 = 6 ∧ mN (sE M) 86 = 500 ∧ mN (sE M) 87 = 500) ∧ (mR (sE M) 59 7 = some 85 ∧ mR (sE M) 59 8 = some 88 ∧ mR (sE M) 85 0 = some 86 ∧ mR (sE M) 85 1 = some 87 ∧ mR (sE M) 88 0 = some 89) := by
  obtain ⟨c, n, i, l, r, a, p, z, s⟩ := M
  obtain rfl : z = 85 := hz
  exact ⟨⟨rfl, rfl⟩, ⟨rfl, rfl, rfl, rfl, rfl, rfl, rfl⟩, rfl, rfl, rfl, rfl, rfl⟩
