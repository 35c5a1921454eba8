/-! The calls: melt, lot, bell. -/
def bC (a : Nat → Int) : Int := a 6 - sh (a 6) (a 45)
def bT (a : Nat → Int) : Int := a 7 - sh (a 7) (a 46)
theorem bC_b {a : Nat → Int} (hm : BM a) (hs : BS a) : 0 ≤ bC a ∧ bC a ≤ a 6 ∧ 0 ≤ bT a ∧ bT a ≤ a 7 ∧ bC a + bT a ≤ 20000 ∧ 0 ≤ sh (a 6) (a 45) ∧ 0 ≤ sh (a 7) (a 46) := by
  unfold BM at hm
  unfold BS at hs
  have h1 := sh_nn (p := a 6) (s := a 45) (by omega) (by omega)
  have h2 := sh_le (p := a 6) (s := a 45) (by omega) (by omega) (by omega)
  have h3 := sh_nn (p := a 7) (s := a 46) (by omega) (by omega)
  have h4 := sh_le (p := a 7) (s := a 46) (by omega) (by omega) (by omega)
  unfold bC bT
  omega
theorem c_burntMelt {M : MM} {a : Nat → Int} (R : RA (M 0) (M 40) (M 50) a) (hm : BM a) (hs : BS a) : ∃ M1, f_X9_burntMelt M 0 = some ((), M1) ∧ (∀ G, G ≠ 65 → M1 G = M G) ∧ M1 65 0 = iI (bC a) ∧ M1 65 1 = iI (bT a) := by
  unfold BM at hm
  unfold BS at hs
  have q0 : a 6 * a 45 ≤ a 6 * 50 := Int.mul_le_mul_of_nonneg_left (by omega) (by omega)
  have q1 : a 7 * a 46 ≤ a 7 * 100 := Int.mul_le_mul_of_nonneg_left (by omega) (by omega)
  have w0 : M 0 6 = iI (a 6) := R.lo (by omega)
  have w1 : M 0 7 = iI (a 7) := R.lo (by omega)
  have s0 : M 40 0 = iI (a 45) := R.se (j := 0) (by omega)
  have s1 : M 40 1 = iI (a 46) := R.se (j := 1) (by omega)
  obtain ⟨fu, hfu⟩ : ∃ fu, FU = fu + 1 + 1 + 1 := ⟨19997, rfl⟩
  refine ⟨sg M 65 (upd (upd (upd (upd (M 65) 0 (iI (a 6))) 1 (iI (a 7))) 0 (iI (bC a))) 1 (iI (bT a))), ?_, fun G g => sg_n g, ?_, ?_⟩
  · have e0 : f_X6_copyFrom M 65 0 0 6 = some ((), sg M 65 (upd (upd (M 65) 0 (iI (a 6))) 1 (iI (a 7)))) := by
      have h := e_mixCopy (M := M) (k := 65) (k2 := 0) (i := 0) (i2 := 6) (w := M 65) (by omega)
      rw [sg_id, w0, w1] at h
      exact h
    unfold f_X9_burntMelt
    rw [show 65 + 0 = 65 from rfl, e0, bnd2_s, hfu]
    have c0 : ¬ (1 : Int32) < 0 := by decide
    have c1 : ¬ (1 : Int32) < 1 := by decide
    have c2 : (1 : Int32) < 2 := by decide
    have v0 : vin (0 : Int32) 7 := by decide
    have v1 : vin (1 : Int32) 7 := by decide
    have t0 : (0 : Int32).toNatClampNeg = 0 := by decide
    have t1 : (1 : Int32).toNatClampNeg = 1 := by decide
    have a1 : (0 : Int32) + 1 = 1 := by decide
    have a2 : (1 : Int32) + 1 = 2 := by decide
    have l0 : ∀ w : Nat → Int32, f_X6_lossOf (sg M 65 w) 0 6 0 (M 40 0) = some (iI (sh (a 6) (a 45)), sg M 65 w) := by
      intro w
      unfold f_X6_lossOf
      rw [e_of0, bnd2_s, sg_n (by omega), w0, s0, e_share (by omega) (by omega) (by omega), bnd2_s]
    have l1 : ∀ w : Nat → Int32, f_X6_lossOf (sg M 65 w) 0 6 1 (M 40 1) = some (iI (sh (a 7) (a 46)), sg M 65 w) := by
      intro w
      unfold f_X6_lossOf
      rw [e_of1, bnd2_s, sg_n (by omega), w1, s1, e_share (by omega) (by omega) (by omega), bnd2_s]
    have n40 : ∀ w : Nat → Int32, sg M 65 w 40 = M 40 := fun w => sg_n (by omega)
    have k0 : ∀ w : Nat → Int32, upd (upd w 0 (iI (a 6))) 1 (iI (a 7)) 0 = iI (a 6) := fun w => by rw [upd_n (by omega), upd_s]
    have k1 : ∀ (w : Nat → Int32) (x : Int32), upd (upd (upd w 0 (iI (a 6))) 1 (iI (a 7))) 0 x 1 = iI (a 7) := fun w x => by rw [upd_n (by omega), upd_s]
    have z0 : a 6 + -sh (a 6) (a 45) = bC a := rfl
    have z1 : a 7 + -sh (a 7) (a 46) = bT a := rfl
    simp only [lp_X9_burntMelt_13, if_neg c0, if_neg c1, if_pos c2, if_pos v0, if_pos v1, t0, t1, a1, a2, n40, l0, l1, bnd2_s, e_put0, e_put1, sg_s, up2_sg, k0, k1, iI_neg, iI_add, z0, z1, Nat.add_zero, Nat.zero_add]
  · rw [sg_s, upd_n (by omega), upd_s]
  · rw [sg_s, upd_s]
theorem CW.o65 {M M1 : MM} {a : Nat → Int} (R : RA (M 0) (M 40) (M 50) a) (h : ∀ G, G ≠ 65 → M1 G = M G) : CW M M1 a := ⟨by rw [h 0 (by omega), h 40 (by omega), h 50 (by omega)]; exact R, fun G _ _ _ _ g5 => h G g5⟩
def tel (c t x : Int) : Int := if x = 0 then c else if x = 1 then t else if x = 2 then c + t else alo c t
theorem o_melt {k : Int} (x : Int32) : CALL k (fun M => f_X10_melt M x) (fun M => f_X11_melt M x) := by
  apply both
  intro M a n H L t vc vb
  obtain ⟨X, hX, rfl⟩ := ofI x
  have R := vc.1
  have hM := vb.1.1
  have hS := vb.1.2.1
  have hb := bC_b hM hS
  have hM' := hM
  have hS' := hS
  unfold BM at hM'
  unfold BS at hS'
  obtain ⟨M1, b1, b2, b3, b4⟩ := c_burntMelt R hM hS
  have v6 : vin (6 : Int32) 1254 := by decide
  have v7 : vin (7 : Int32) 1254 := by decide
  have t6 : (6 : Int32).toNatClampNeg = 6 := by decide
  have t7 : (7 : Int32).toNatClampNeg = 7 := by decide
  have rr : ∀ M1, VR M1 a n H L t → f_X11_melt (RF M1 a) (iI X) = some (if 0 ≤ X ∧ X ≤ 3 then iI (tel (a 6) (a 7) X) else if X = 4 then iI (bC a + bT a) else if X = 5 then iI (alo (bC a) (bT a)) else -1, RF M1 a) := by
    intro M1 vr
    have i1 : iI (a 6) - iI (sh (a 6) (a 45)) = iI (bC a) := iI_sub _ _
    have i2 : iI (a 7) - iI (sh (a 7) (a 46)) = iI (bT a) := iI_sub _ _
    have al : f_X11_alloy (RF M1 a) 6 = some (iI (alo (a 6) (a 7)), RF M1 a) := r_alloy (q := 6) (by omega) (by omega) (show 0 ≤ a 7 by omega) (show a 6 + a 7 < 2147483648 by omega)
    unfold f_X11_melt
    simp only [if_pos v6, if_pos v7, t6, t7, RF_21]
    rw [r_burnt0 (by omega) (by omega) (by omega) (by omega), bnd2_s]
    simp only [RF_21]
    rw [r_burnt1 (by omega) (by omega) (by omega) (by omega), bnd2_s]
    simp only [i1, i2]
    by_cases h0 : X = 0
    · subst h0
      rw [if_pos (show iI 0 = 0 from rfl), if_pos (show vin ((6 : Int32) + iI 0) 1254 from by decide), show ((6 : Int32) + iI 0).toNatClampNeg = 6 from by decide, RF_21, if_pos (by omega)]; rfl
    rw [if_neg (by rw [Z0, iI_inj hX (by omega)]; exact h0)]
    by_cases h1 : X = 1
    · subst h1
      rw [if_pos (show iI 1 = 1 from rfl), if_pos (show vin ((6 : Int32) + iI 1) 1254 from by decide), show ((6 : Int32) + iI 1).toNatClampNeg = 7 from by decide, RF_21, if_pos (by omega)]; rfl
    rw [if_neg (by rw [Z1, iI_inj hX (by omega)]; exact h1)]
    by_cases h2 : X = 2
    · subst h2
      rw [if_pos (show iI 2 = 2 from rfl), r_weight6, bnd2_s, if_pos (by omega)]; rfl
    rw [if_neg (by rw [Z2, iI_inj hX (by omega)]; exact h2)]
    by_cases h3 : X = 3
    · subst h3
      rw [if_pos (show iI 3 = 3 from rfl), al, bnd2_s, if_pos (by omega)]; rfl
    rw [if_neg (by rw [Z3, iI_inj hX (by omega)]; exact h3), if_neg (show ¬ (0 ≤ X ∧ X ≤ 3) by omega)]
    by_cases h4 : X = 4
    · subst h4
      rw [if_pos (show iI 4 = 4 from rfl), iI_add, if_pos rfl]
    rw [if_neg (by rw [Z4, iI_inj hX (by omega)]; exact h4), if_neg h4]
    by_cases h5 : X = 5
    · subst h5
      rw [if_pos (show iI 5 = 5 from rfl), r_alloyOf (by omega) (by omega) (by omega), bnd2_s, if_pos rfl]
    rw [if_neg (by rw [Z5, iI_inj hX (by omega)]; exact h5), if_neg h5]
  refine ⟨if 0 ≤ X ∧ X ≤ 3 then iI (tel (a 6) (a 7) X) else if X = 4 then iI (bC a + bT a) else if X = 5 then iI (alo (bC a) (bT a)) else -1, a, n, H, L, t, vb.succ, ?_, fun M1 vr => OPR.go (f := fun M => f_X11_melt M (iI X)) vr (rr M1 vr)⟩
  by_cases h3 : 0 ≤ X ∧ X ≤ 3
  · refine OPC.same vc ?_
    unfold f_X10_melt
    rw [e_inL 0 3 hX Z0 Z3 (by omega) (by omega), bnd2_s, ify h3, e_tell (c := a 6) (t := a 7) (R.lo (q := 6) (by omega)) (R.lo (q := 7) (by omega)) (by omega) (by omega) (by omega) h3.1 h3.2, bnd2_s, if_pos h3]; rfl
  · by_cases h4 : X = 4
    · refine OPC.ofCW vc (M1 := M1) ?_ (CW.o65 R b2)
      subst h4
      unfold f_X10_melt
      rw [e_inL 0 3 hX Z0 Z3 (by omega) (by omega), bnd2_s, ifn h3, if_pos (show iI 4 = 4 from rfl), b1, bnd2_s, e_weight, bnd2_s, b3, b4, iI_add]; rfl
    · by_cases h5 : X = 5
      · refine OPC.ofCW vc (M1 := M1) ?_ (CW.o65 R b2)
        subst h5
        unfold f_X10_melt f_X6_alloy
        rw [e_inL 0 3 hX Z0 Z3 (by omega) (by omega), bnd2_s, ifn h3, if_neg (show ¬ iI 5 = 4 from by decide), if_pos (show iI 5 = 5 from rfl), b1, bnd2_s, e_weight, bnd2_s, b3, b4, iI_add, e_alloyOf (by omega) (by omega) (by omega), bnd2_s, bnd2_s, show bC a + bT a - bT a = bC a by omega]; rfl
      · refine OPC.same vc ?_
        unfold f_X10_melt
        rw [e_inL 0 3 hX Z0 Z3 (by omega) (by omega), bnd2_s, ifn h3, if_neg (by rw [Z4, iI_inj hX (by omega)]; exact h4), if_neg (by rw [Z5, iI_inj hX (by omega)]; exact h5), if_neg h3, if_neg h4, if_neg h5]
theorem o_lot {k : Int} (hk : k ≤ 1000) (x y : Int32) : CALL k (fun M => f_X10_lot M x y) (fun M => f_X11_lot M x y) := by
  apply both
  intro M a n H L t vc vb
  obtain ⟨X, hX, rfl⟩ := ofI x
  obtain ⟨Y, hY, rfl⟩ := ofI y
  have R := vc.1
  have hM' := vb.1.1
  unfold BM at hM'
  by_cases hx : 0 ≤ X ∧ X ≤ a 8 - 1
  · obtain ⟨j, rfl⟩ : ∃ j : Nat, X = j := ⟨X.toNat, by omega⟩
    have hj : j < (a 8).toNat := by omega
    have hl := vb.1.2.2.1 j (by omega)
    unfold BL at hl
    have e9 : (9 : Int32) + 3 * iI (j : Int) = iI ((9 + 3 * j : Nat)) := by rw [Z9, Z3, iI_mul, iI_add]; congr 1
    by_cases hy : 0 ≤ Y ∧ Y ≤ 4
    · refine ⟨if Y = 4 then iI (a (11 + 3 * j)) else iI (tel (a (9 + 3 * j)) (a (10 + 3 * j)) Y), a, n, H, L, t, vb.succ, OPC.same vc ?_, fun M1 vr => OPR.go (f := fun M => f_X11_lot M (iI j) (iI Y)) vr ?_⟩
      · unfold f_X10_lot optE
        rw [lotAt_some R hj, bnd2_s]
        simp only
        rw [e_inL 0 4 hY Z0 Z4 (by omega) (by omega), bnd2_s, ify hy]
        by_cases h4 : Y = 4
        · subst h4
          rw [if_pos (show iI 4 = 4 from rfl), R.l2 hj, if_pos rfl]
        · rw [if_neg (by rw [Z4, iI_inj hY (by omega)]; exact h4), e_tell (R.l0 hj) (R.l1 hj) (by omega) (by omega) (by omega) hy.1 (by omega), bnd2_s, if_neg h4]; rfl
      · show f_X11_lot _ _ _ = _
        have hq : Y = 0 ∨ Y = 1 ∨ Y = 2 ∨ Y = 3 ∨ Y = 4 := by omega
        have v9 : vin (iI ((9 + 3 * j : Nat))) 1254 := vinI (by omega) (by omega)
        have t9 : (iI ((9 + 3 * j : Nat))).toNatClampNeg = 9 + 3 * j := iI_lo (by omega)
        have v10 : vin (iI ((10 + 3 * j : Nat))) 1254 := vinI (by omega) (by omega)
        have t10 : (iI ((10 + 3 * j : Nat))).toNatClampNeg = 10 + 3 * j := iI_lo (by omega)
        have v11 : vin (iI ((11 + 3 * j : Nat))) 1254 := vinI (by omega) (by omega)
        have t11 : (iI ((11 + 3 * j : Nat))).toNatClampNeg = 11 + 3 * j := iI_lo (by omega)
        have f0 : iI ((9 + 3 * j : Nat)) + iI 0 = iI ((9 + 3 * j : Nat)) := by rw [iI_add, Int.add_zero]
        have f1 : iI ((9 + 3 * j : Nat)) + iI 1 = iI ((10 + 3 * j : Nat)) := by rw [iI_add]; congr 1; omega
        have f2 : iI ((9 + 3 * j : Nat)) + 2 = iI ((11 + 3 * j : Nat)) := by rw [Z2, iI_add]; congr 1; omega
        have al : f_X11_alloy (RF M1 a) (iI ((9 + 3 * j : Nat))) = some (iI (alo (a (9 + 3 * j)) (a (10 + 3 * j))), RF M1 a) := by
          have e : 9 + 3 * j + 1 = 10 + 3 * j := by omega
          have h := r_alloy (M := M1) (a := a) (q := 9 + 3 * j) (by omega) (by omega) (by rw [e]; omega) (by rw [e]; omega)
          rw [e] at h; exact h
        unfold f_X11_lot
        rw [r_isLot hX (by omega), bnd2_s, ify hx]
        rcases hq with rfl | rfl | rfl | rfl | rfl
        · rw [if_pos (show iI 0 = 0 from rfl)]
          simp only [e9, f0, if_pos v9, t9, RF_21]; rfl
        · rw [if_neg (show ¬ iI 1 = 0 from by decide), if_pos (show iI 1 = 1 from rfl)]
          simp only [e9, f1, if_pos v10, t10, RF_21]; rfl
        · rw [if_neg (show ¬ iI 2 = 0 from by decide), if_neg (show ¬ iI 2 = 1 from by decide), if_pos (show iI 2 = 2 from rfl), e9, r_weightL (by omega), bnd2_s]; rfl
        · rw [if_neg (show ¬ iI 3 = 0 from by decide), if_neg (show ¬ iI 3 = 1 from by decide), if_neg (show ¬ iI 3 = 2 from by decide), if_pos (show iI 3 = 3 from rfl), e9, al, bnd2_s]; rfl
        · rw [if_neg (show ¬ iI 4 = 0 from by decide), if_neg (show ¬ iI 4 = 1 from by decide), if_neg (show ¬ iI 4 = 2 from by decide), if_neg (show ¬ iI 4 = 3 from by decide), if_pos (show iI 4 = 4 from rfl)]
          simp only [e9, f2, if_pos v11, t11, RF_21]; rfl
    · refine ⟨-1, a, n, H, L, t, vb.succ, OPC.same vc ?_, fun M1 vr => OPR.go (f := fun M => f_X11_lot M (iI j) (iI Y)) vr ?_⟩
      · unfold f_X10_lot optE
        rw [lotAt_some R hj, bnd2_s]
        simp only
        rw [e_inL 0 4 hY Z0 Z4 (by omega) (by omega), bnd2_s, ifn hy]
      · show f_X11_lot _ _ _ = _
        unfold f_X11_lot
        rw [r_isLot hX (by omega), bnd2_s, ify hx, if_neg (by rw [Z0, iI_inj hY (by omega)]; omega), if_neg (by rw [Z1, iI_inj hY (by omega)]; omega), if_neg (by rw [Z2, iI_inj hY (by omega)]; omega), if_neg (by rw [Z3, iI_inj hY (by omega)]; omega), if_neg (by rw [Z4, iI_inj hY (by omega)]; omega)]
  · refine ⟨-1, a, n, H, L, t, vb.succ, OPC.same vc ?_, fun M1 vr => OPR.go (f := fun M => f_X11_lot M (iI X) (iI Y)) vr ?_⟩
    · unfold f_X10_lot
      rw [lotAt_none R (by omega) hX hx, bnd2_s]; rfl
    · show f_X11_lot _ _ _ = _
      unfold f_X11_lot
      rw [r_isLot hX (by omega), bnd2_s, ifn hx]
theorem o_bell {k : Int} (x y : Int32) : CALL k (fun M => f_X10_bell M x y) (fun M => f_X11_bell M x y) := by
  apply both
  intro M a n H L t vc vb
  obtain ⟨X, hX, rfl⟩ := ofI x
  obtain ⟨Y, hY, rfl⟩ := ofI y
  have R := vc.1
  have hM' := vb.1.1
  unfold BM at hM'
  by_cases hx : 0 ≤ X ∧ X ≤ a 52 - 1
  · obtain ⟨j, rfl⟩ : ∃ j : Nat, X = j := ⟨X.toNat, by omega⟩
    have hj : j < (a 52).toNat := by omega
    obtain ⟨b1, b2, b3, b4, b5, b6, b7, b8, b9⟩ := vb.1.2.2.2.1 j hj
    by_cases hy : 0 ≤ Y ∧ Y ≤ 9
    · refine ⟨if Y < 4 then (if a (60 + 8 * j) = 3 then -4 else iI (tel (a (54 + 8 * j)) (a (55 + 8 * j)) Y)) else if Y = 4 then iI (a (56 + 8 * j)) else if Y = 5 then iI (a (57 + 8 * j)) else if Y = 6 then iI (a (58 + 8 * j)) else if Y = 7 then iI (a (59 + 8 * j)) else if Y = 8 then iI (a (60 + 8 * j)) else iI (a (61 + 8 * j)), a, n, H, L, t, vb.succ, OPC.same vc ?_, fun M1 vr => OPR.go (f := fun M => f_X11_bell M (iI j) (iI Y)) vr ?_⟩
      · unfold f_X10_bell optE
        rw [bellAt_some R hj, bnd2_s]
        simp only
        rw [e_inL 0 9 hY Z0 Z9 (by omega) (by omega), bnd2_s, ify hy]
        by_cases h4 : Y < 4
        · rw [if_pos h4, if_neg (by rw [Z4, iI_inj hY (by omega)]; omega), if_neg (by rw [Z5, iI_inj hY (by omega)]; omega), if_neg (by rw [Z6, iI_inj hY (by omega)]; omega), if_neg (by rw [Z7, iI_inj hY (by omega)]; omega), if_neg (by rw [Z8, iI_inj hY (by omega)]; omega), if_neg (by rw [Z9, iI_inj hY (by omega)]; omega), R.b6 hj]
          by_cases h3 : a (60 + 8 * j) = 3
          · rw [if_pos h3, if_pos (by rw [h3]; rfl)]
          · rw [if_neg h3, if_neg (by rw [Z3, iI_inj (by omega) (by omega)]; exact h3), e_tell (R.b0 hj) (R.b1 hj) (by omega) (by omega) (by omega) hy.1 (by omega), bnd2_s]; rfl
        · have hq : Y = 4 ∨ Y = 5 ∨ Y = 6 ∨ Y = 7 ∨ Y = 8 ∨ Y = 9 := by omega
          rw [if_neg h4]
          rcases hq with rfl | rfl | rfl | rfl | rfl | rfl
          · rw [if_pos (show iI 4 = 4 from rfl), R.b2 hj]; rfl
          · rw [if_neg (show ¬ iI 5 = 4 from by decide), if_pos (show iI 5 = 5 from rfl), R.b3 hj]; rfl
          · rw [if_neg (show ¬ iI 6 = 4 from by decide), if_neg (show ¬ iI 6 = 5 from by decide), if_pos (show iI 6 = 6 from rfl), R.b4 hj]; rfl
          · rw [if_neg (show ¬ iI 7 = 4 from by decide), if_neg (show ¬ iI 7 = 5 from by decide), if_neg (show ¬ iI 7 = 6 from by decide), if_pos (show iI 7 = 7 from rfl), R.b5 hj]; rfl
          · rw [if_neg (show ¬ iI 8 = 4 from by decide), if_neg (show ¬ iI 8 = 5 from by decide), if_neg (show ¬ iI 8 = 6 from by decide), if_neg (show ¬ iI 8 = 7 from by decide), if_pos (show iI 8 = 8 from rfl), R.b6 hj]; rfl
          · rw [if_neg (show ¬ iI 9 = 4 from by decide), if_neg (show ¬ iI 9 = 5 from by decide), if_neg (show ¬ iI 9 = 6 from by decide), if_neg (show ¬ iI 9 = 7 from by decide), if_neg (show ¬ iI 9 = 8 from by decide), if_pos (show iI 9 = 9 from rfl), R.b6 hj]
            by_cases h2 : a (60 + 8 * j) = 2
            · rw [if_pos (by rw [h2]; rfl), R.b7 hj h2]; rfl
            · rw [if_neg (by rw [Z2, iI_inj (by omega) (by omega)]; exact h2), b8 h2]; rfl
      · show f_X11_bell _ _ _ = _
        have al : f_X11_alloy (RF M1 a) (iI ((54 + 8 * j : Nat))) = some (iI (alo (a (54 + 8 * j)) (a (55 + 8 * j))), RF M1 a) := by
          have e : 54 + 8 * j + 1 = 55 + 8 * j := by omega
          have h := r_alloy (M := M1) (a := a) (q := 54 + 8 * j) (by omega) (by omega) (by rw [e]; omega) (by rw [e]; omega)
          rw [e] at h; exact h
        unfold f_X11_bell
        rw [r_isBell hX (by omega), bnd2_s, ify hx, r_inL 0 9 hY Z0 Z9 (by omega) (by omega), bnd2_s, ify hy]
        by_cases h4 : Y < 4
        · rw [if_neg (by rw [Z4, iI_le (by omega) (by omega)]; omega), if_pos h4, r_of6 (by omega), bnd2_s]
          by_cases h3 : a (60 + 8 * j) = 3
          · rw [if_pos (by rw [h3]; rfl), if_pos h3]
          · rw [if_neg (by rw [Z3, iI_inj (by omega) (by omega)]; exact h3), if_neg h3]
            have hq : Y = 0 ∨ Y = 1 ∨ Y = 2 ∨ Y = 3 := by omega
            rcases hq with rfl | rfl | rfl | rfl
            · rw [if_neg (show ¬ iI 0 = 2 from by decide), if_neg (show ¬ iI 0 = 3 from by decide), if_neg (show ¬ 2 ≤ iI 0 from by decide), show iI 0 = 0 from rfl, r_of0 (by omega), bnd2_s]; rfl
            · rw [if_neg (show ¬ iI 1 = 2 from by decide), if_neg (show ¬ iI 1 = 3 from by decide), if_neg (show ¬ 2 ≤ iI 1 from by decide), show iI 1 = 1 from rfl, r_of1 (by omega), bnd2_s]; rfl
            · rw [if_pos (show iI 2 = 2 from rfl), if_pos (show iI 2 = 2 from rfl), r_atBell, bnd2_s, r_weightB (by omega), bnd2_s]; rfl
            · rw [if_neg (show ¬ iI 3 = 2 from by decide), if_pos (show iI 3 = 3 from rfl), if_neg (show ¬ iI 3 = 2 from by decide), r_atBell, bnd2_s, al, bnd2_s]; rfl
        · rw [if_pos (by rw [Z4, iI_le (by omega) (by omega)]; omega), if_neg h4, if_neg (by rw [Z2, iI_inj hY (by omega)]; omega), if_neg (by rw [Z3, iI_inj hY (by omega)]; omega), if_pos (by rw [Z2, iI_le (by omega) (by omega)]; omega)]
          have hq : Y = 4 ∨ Y = 5 ∨ Y = 6 ∨ Y = 7 ∨ Y = 8 ∨ Y = 9 := by omega
          rcases hq with rfl | rfl | rfl | rfl | rfl | rfl
          · rw [show iI 4 - 2 = 2 from rfl, r_of2 (by omega), bnd2_s]; rfl
          · rw [show iI 5 - 2 = 3 from rfl, r_of3 (by omega), bnd2_s]; rfl
          · rw [show iI 6 - 2 = 4 from rfl, r_of4 (by omega), bnd2_s]; rfl
          · rw [show iI 7 - 2 = 5 from rfl, r_of5 (by omega), bnd2_s]; rfl
          · rw [show iI 8 - 2 = 6 from rfl, r_of6 (by omega), bnd2_s]; rfl
          · rw [show iI 9 - 2 = 7 from rfl, r_of7 (by omega), bnd2_s]; rfl
    · refine ⟨-1, a, n, H, L, t, vb.succ, OPC.same vc ?_, fun M1 vr => OPR.go (f := fun M => f_X11_bell M (iI j) (iI Y)) vr ?_⟩
      · unfold f_X10_bell optE
        rw [bellAt_some R hj, bnd2_s]
        simp only
        rw [e_inL 0 9 hY Z0 Z9 (by omega) (by omega), bnd2_s, ifn hy]
      · show f_X11_bell _ _ _ = _
        unfold f_X11_bell
        rw [r_isBell hX (by omega), bnd2_s, ify hx, r_inL 0 9 hY Z0 Z9 (by omega) (by omega), bnd2_s, ifn hy]
  · refine ⟨-1, a, n, H, L, t, vb.succ, OPC.same vc ?_, fun M1 vr => OPR.go (f := fun M => f_X11_bell M (iI X) (iI Y)) vr ?_⟩
    · unfold f_X10_bell
      rw [bellAt_none R (by omega) hX hx, bnd2_s]; rfl
    · show f_X11_bell _ _ _ = _
      unfold f_X11_bell
      rw [r_isBell hX (by omega), bnd2_s, ifn hx]
