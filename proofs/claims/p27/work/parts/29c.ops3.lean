/-! The calls: melt, lot, bell. -/
def bC (a : Nat → Int) : Int := a 6 - sh (a 6) (a 45)
def bT (a : Nat → Int) : Int := a 7 - sh (a 7) (a 46)
theorem bC_b {a : Nat → Int} (hm : BM a) (hs : BS a) : 0 ≤ bC a ∧ bC a ≤ a 6 ∧ 0 ≤ bT a ∧ bT a ≤ a 7 ∧ bC a + bT a ≤ 20000 ∧ 0 ≤ sh (a 6) (a 45) ∧ 0 ≤ sh (a 7) (a 46) := by
  unfold BM at hm
  unfold BS at hs
  have h1 := sh_nn (p := a 6) (s := a 45) (by omega) (by omega)
  have h2 := sh_le (p := a 6) (s := a 45) (by omega) (by omega) (by omega)
  have h3 := sh_nn (p := a 7) (s := a 46) (by omega) (by omega)
  have h4 := sh_le (p := a 7) (s := a 46) (by omega) (by omega) (by omega)
  unfold bC bT
  omega
theorem c_burntMelt {M : MM} {a : Nat → Int} (R : RA (M 0) (M 40) (M 50) a) (hm : BM a) (hs : BS a) : ∃ M1, f_X9_burntMelt M 0 = some ((), M1) ∧ (∀ G, G ≠ 65 → M1 G = M G) ∧ M1 65 0 = iI (bC a) ∧ M1 65 1 = iI (bT a) := by
  unfold BM at hm
  unfold BS at hs
  have q0 : a 6 * a 45 ≤ a 6 * 50 := Int.mul_le_mul_of_nonneg_left (by omega) (by omega)
  have q1 : a 7 * a 46 ≤ a 7 * 100 := Int.mul_le_mul_of_nonneg_left (by omega) (by omega)
  have w0 : M 0 6 = iI (a 6) := R.lo (by omega)
  have w1 : M 0 7 = iI (a 7) := R.lo (by omega)
  have s0 : M 40 0 = iI (a 45) := R.se (j := 0) (by omega)
  have s1 : M 40 1 = iI (a 46) := R.se (j := 1) (by omega)
  obtain ⟨fu, hfu⟩ : ∃ fu, FU = fu + 1 + 1 + 1 := ⟨19997, rfl⟩
  refine ⟨sg M 65 (upd (upd (upd (upd (M 65) 0 (iI (a 6))) 1 (iI (a 7))) 0 (iI (bC a))) 1 (iI (bT a))), ?_, fun G g => sg_n g, ?_, ?_⟩
  · have e0 : f_X6_copyFrom M 65 0 0 6 = some ((), sg M 65 (upd (upd (M 65) 0 (iI (a 6))) 1 (iI (a 7)))) := by
      have h := e_mixCopy (M := M) (k := 65) (k2 := 0) (i := 0) (i2 := 6) (w := M 65) (by omega)
      rw [sg_id, w0, w1] at h
      exact h
    unfold f_X9_burntMelt
    rw [show 65 + 0 = 65 from rfl, e0, bnd2_s, hfu]
    have c0 : ¬ (1 : Int32) < 0 := by decide
    have c1 : ¬ (1 : Int32) < 1 := by decide
    have c2 : (1 : Int32) < 2 := by decide
    have v0 : vin (0 : Int32) 7 := by decide
    have v1 : vin (1 : Int32) 7 := by decide
    have t0 : (0 : Int32).toNatClampNeg = 0 := by decide
    have t1 : (1 : Int32).toNatClampNeg = 1 := by decide
    have a1 : (0 : Int32) + 1 = 1 := by decide
    have a2 : (1 : Int32) + 1 = 2 := by decide
    have l0 : ∀ w : Nat → Int32, f_X6_lossOf (sg M 65 w) 0 6 0 (M 40 0) = some (iI (sh (a 6) (a 45)), sg M 65 w) := by
      intro w
      unfold f_X6_lossOf
      rw [e_of0, bnd2_s, sg_n (by omega), w0, s0, e_share (by omega) (by omega) (by omega), bnd2_s]
    have l1 : ∀ w : Nat → Int32, f_X6_lossOf (sg M 65 w) 0 6 1 (M 40 1) = some (iI (sh (a 7) (a 46)), sg M 65 w) := by
      intro w
      unfold f_X6_lossOf
      rw [e_of1, bnd2_s, sg_n (by omega), w1, s1, e_share (by omega) (by omega) (by omega), bnd2_s]
    have n40 : ∀ w : Nat → Int32, sg M 65 w 40 = M 40 := fun w => sg_n (by omega)
    have k0 : ∀ w : Nat → Int32, upd (upd w 0 (iI (a 6))) 1 (iI (a 7)) 0 = iI (a 6) := fun w => by rw [upd_n (by omega), upd_s]
    have k1 : ∀ (w : Nat → Int32) (x : Int32), upd (upd (upd w 0 (iI (a 6))) 1 (iI (a 7))) 0 x 1 = iI (a 7) := fun w x => by rw [upd_n (by omega), upd_s]
    have z0 : a 6 + -sh (a 6) (a 45) = bC a := rfl
    have z1 : a 7 + -sh (a 7) (a 46) = bT a := rfl
    simp only [lp_X9_burntMelt_13, if_neg c0, if_neg c1, if_pos c2, if_pos v0, if_pos v1, t0, t1, a1, a2, n40, l0, l1, bnd2_s, e_put0, e_put1, sg_s, up2_sg, k0, k1, iI_neg, iI_add, z0, z1, Nat.add_zero, Nat.zero_add]
  · rw [sg_s, upd_n (by omega), upd_s]
  · rw [sg_s, upd_s]
theorem CW.o65 {M M1 : MM} {a : Nat → Int} (R : RA (M 0) (M 40) (M 50) a) (h : ∀ G, G ≠ 65 → M1 G = M G) : CW M M1 a := ⟨by rw [h 0 (by omega), h 40 (by omega), h 50 (by omega)]; exact R, fun G _ _ _ _ g5 => h G g5⟩
def tel (c t x : Int) : Int := if x = 0 then c else if x = 1 then t else if x = 2 then c + t else alo c t
