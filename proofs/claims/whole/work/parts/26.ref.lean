/-! The reference's small methods over its row. -/
def RF (M : MM) (a : Nat → Int) : MM := sg M 21 (iF a)
theorem RF_21 (M : MM) (a : Nat → Int) (q : Nat) : RF M a 21 q = iI (a q) := by unfold RF; rw [sg_s]; rfl
theorem RF_n {M : MM} {a : Nat → Int} {G : Nat} (h : G ≠ 21) : RF M a G = M G := sg_n h
theorem up2_RF (M : MM) (a : Nat → Int) (q : Nat) (x : Int) : up2 (RF M a) 21 q (iI x) = RF M (uI a q x) := by unfold RF; rw [up2_sg, upd_iF]
theorem RF_RF (M : MM) (a b : Nat → Int) : RF (RF M a) b = RF M b := sg_sg M 21 (iF a) (iF b)
theorem VR.eq {M : MM} {a : Nat → Int} {n : Nat} {H : Nat → Nat → Int} {L : Nat} {t : Nat → Int} (h : VR M a n H L t) : RF M a = M := by unfold RF; rw [← h.1, sg_id]
theorem VR.rm {M : MM} {a : Nat → Int} {n : Nat} {H : Nat → Nat → Int} {L : Nat} {t : Nat → Int} (h : VR M a n H L t) (b : Nat → Int) : VR (RF M b) b n H L t := by
  obtain ⟨h1, h2, h3, h4, h5⟩ := h
  refine ⟨by unfold RF; rw [sg_s], ?_, ?_, ?_, ?_⟩
  · rw [RF_n (by omega)]; exact h2
  · rw [RF_n (by omega)]; exact h3
  · rw [RF_n (by omega)]; exact h4
  · rw [RF_n (by omega)]; exact h5
theorem RF_FR (M : MM) (b : Nat → Int) : FR M (RF M b) := fun G h => RF_n (by omega)
theorem OPR.rm {o : Option (Int32 × MM)} {M : MM} {r : Int32} {a b : Nat → Int} {n : Nat} {H : Nat → Nat → Int} {L : Nat} {t : Nat → Int} (h : VR M a n H L t) (e : o = some (r, RF M b)) : OPR o M r b n H L t := ⟨_, e, h.rm b, RF_FR M b⟩
theorem OPR.rm2 {o : Option (Int32 × MM)} {M M1 : MM} {r : Int32} {a b : Nat → Int} {n : Nat} {H : Nat → Nat → Int} {L : Nat} {t : Nat → Int} (f : FR M M1) (h : VR M1 a n H L t) (e : o = some (r, RF M1 b)) : OPR o M r b n H L t := ⟨_, e, h.rm b, fun G hG => ((RF_FR M1 b) G hG).trans (f G hG)⟩

theorem r_set0 (M : MM) (a : Nat → Int) : f_X11_setting (RF M a) 0 = some (iI (a 45), RF M a) := by
  unfold f_X11_setting
  rw [if_pos (show vin ((45 : Int32) + 0) 1254 from by decide), show ((45 : Int32) + 0).toNatClampNeg = 45 from by decide, RF_21]
theorem r_set1 (M : MM) (a : Nat → Int) : f_X11_setting (RF M a) 1 = some (iI (a 46), RF M a) := by
  unfold f_X11_setting
  rw [if_pos (show vin ((45 : Int32) + 1) 1254 from by decide), show ((45 : Int32) + 1).toNatClampNeg = 46 from by decide, RF_21]
theorem r_set2 (M : MM) (a : Nat → Int) : f_X11_setting (RF M a) 2 = some (iI (a 47), RF M a) := by
  unfold f_X11_setting
  rw [if_pos (show vin ((45 : Int32) + 2) 1254 from by decide), show ((45 : Int32) + 2).toNatClampNeg = 47 from by decide, RF_21]
theorem r_set3 (M : MM) (a : Nat → Int) : f_X11_setting (RF M a) 3 = some (iI (a 48), RF M a) := by
  unfold f_X11_setting
  rw [if_pos (show vin ((45 : Int32) + 3) 1254 from by decide), show ((45 : Int32) + 3).toNatClampNeg = 48 from by decide, RF_21]
theorem r_set4 (M : MM) (a : Nat → Int) : f_X11_setting (RF M a) 4 = some (iI (a 49), RF M a) := by
  unfold f_X11_setting
  rw [if_pos (show vin ((45 : Int32) + 4) 1254 from by decide), show ((45 : Int32) + 4).toNatClampNeg = 49 from by decide, RF_21]
theorem r_set5 (M : MM) (a : Nat → Int) : f_X11_setting (RF M a) 5 = some (iI (a 50), RF M a) := by
  unfold f_X11_setting
  rw [if_pos (show vin ((45 : Int32) + 5) 1254 from by decide), show ((45 : Int32) + 5).toNatClampNeg = 50 from by decide, RF_21]
theorem r_set6 (M : MM) (a : Nat → Int) : f_X11_setting (RF M a) 6 = some (iI (a 51), RF M a) := by
  unfold f_X11_setting
  rw [if_pos (show vin ((45 : Int32) + 6) 1254 from by decide), show ((45 : Int32) + 6).toNatClampNeg = 51 from by decide, RF_21]
theorem r_setN {M : MM} {a : Nat → Int} {j : Nat} (h : j < 7) : f_X11_setting (RF M a) (iI j) = some (iI (a (45 + j)), RF M a) := by
  have e : (45 : Int32) + iI j = iI ((45 + j : Nat)) := by rw [Z45, iI_add]; congr 1
  unfold f_X11_setting
  simp only [e, if_pos (vinI (show 45 + j < 1254 by omega) (by omega)), iI_lo (show 45 + j < 2147483648 by omega), RF_21]
theorem r_weight {M : MM} {a : Nat → Int} {q : Nat} (h : q + 1 < 1254) : f_X11_weight (RF M a) (iI q) = some (iI (a q + a (q + 1)), RF M a) := by
  have e : iI q + 1 = iI ((q + 1 : Nat)) := by rw [Z1, iI_add]; congr 1
  unfold f_X11_weight
  simp only [e, if_pos (vinI (show q < 1254 by omega) (by omega)), if_pos (vinI h (by omega)), iI_lo (show q < 2147483648 by omega), iI_lo (show q + 1 < 2147483648 by omega), RF_21, iI_add]
theorem r_weight6 (M : MM) (a : Nat → Int) : f_X11_weight (RF M a) 6 = some (iI (a 6 + a 7), RF M a) := r_weight (q := 6) (by omega)
theorem r_weightB {M : MM} {a : Nat → Int} {j : Nat} (h : j < 100) : f_X11_weight (RF M a) (iI ((54 + 8 * j : Nat))) = some (iI (a (54 + 8 * j) + a (55 + 8 * j)), RF M a) := by
  rw [r_weight (by omega), show 54 + 8 * j + 1 = 55 + 8 * j by omega]
theorem r_weightL {M : MM} {a : Nat → Int} {j : Nat} (h : j < 12) : f_X11_weight (RF M a) (iI ((9 + 3 * j : Nat))) = some (iI (a (9 + 3 * j) + a (10 + 3 * j)), RF M a) := by
  rw [r_weight (by omega), show 9 + 3 * j + 1 = 10 + 3 * j by omega]
theorem r_alloy {M : MM} {a : Nat → Int} {q : Nat} (h : q + 1 < 1254) (hc : 0 ≤ a q) (ht : 0 ≤ a (q + 1)) (hB : a q + a (q + 1) < 2147483648) : f_X11_alloy (RF M a) (iI q) = some (iI (alo (a q) (a (q + 1))), RF M a) := by
  have e : iI q + 1 = iI ((q + 1 : Nat)) := by rw [Z1, iI_add]; congr 1
  unfold f_X11_alloy
  simp only [e, if_pos (vinI (show q < 1254 by omega) (by omega)), if_pos (vinI h (by omega)), iI_lo (show q < 2147483648 by omega), iI_lo (show q + 1 < 2147483648 by omega), RF_21]
  rw [r_alloyOf hc ht hB, bnd2_s]
theorem r_atBell (M : MM) (j : Nat) : f_X11_atBell M (iI j) = some (iI ((54 + 8 * j : Nat)), M) := by
  unfold f_X11_atBell
  rw [Z54, Z8, iI_mul, iI_add]; congr 3

theorem r_of0 {M : MM} {a : Nat → Int} {j : Nat} (h : j < 100) : f_X11_of (RF M a) (iI j) 0 = some (iI (a (54 + 8 * j)), RF M a) := by
  have e : (54 : Int32) + 8 * iI j + 0 = iI ((54 + 8 * j : Nat)) := by rw [Z54, Z8, Z0, iI_mul, iI_add, iI_add]; refine congrArg iI ?_; omega
  unfold f_X11_of
  simp only [e, if_pos (vinI (show 54 + 8 * j < 1254 by omega) (by omega)), iI_lo (show 54 + 8 * j < 2147483648 by omega), RF_21]
theorem r_of1 {M : MM} {a : Nat → Int} {j : Nat} (h : j < 100) : f_X11_of (RF M a) (iI j) 1 = some (iI (a (55 + 8 * j)), RF M a) := by
  have e : (54 : Int32) + 8 * iI j + 1 = iI ((55 + 8 * j : Nat)) := by rw [Z54, Z8, Z1, iI_mul, iI_add, iI_add]; refine congrArg iI ?_; omega
  unfold f_X11_of
  simp only [e, if_pos (vinI (show 55 + 8 * j < 1254 by omega) (by omega)), iI_lo (show 55 + 8 * j < 2147483648 by omega), RF_21]
theorem r_of2 {M : MM} {a : Nat → Int} {j : Nat} (h : j < 100) : f_X11_of (RF M a) (iI j) 2 = some (iI (a (56 + 8 * j)), RF M a) := by
  have e : (54 : Int32) + 8 * iI j + 2 = iI ((56 + 8 * j : Nat)) := by rw [Z54, Z8, Z2, iI_mul, iI_add, iI_add]; refine congrArg iI ?_; omega
  unfold f_X11_of
  simp only [e, if_pos (vinI (show 56 + 8 * j < 1254 by omega) (by omega)), iI_lo (show 56 + 8 * j < 2147483648 by omega), RF_21]
theorem r_of3 {M : MM} {a : Nat → Int} {j : Nat} (h : j < 100) : f_X11_of (RF M a) (iI j) 3 = some (iI (a (57 + 8 * j)), RF M a) := by
  have e : (54 : Int32) + 8 * iI j + 3 = iI ((57 + 8 * j : Nat)) := by rw [Z54, Z8, Z3, iI_mul, iI_add, iI_add]; refine congrArg iI ?_; omega
  unfold f_X11_of
  simp only [e, if_pos (vinI (show 57 + 8 * j < 1254 by omega) (by omega)), iI_lo (show 57 + 8 * j < 2147483648 by omega), RF_21]
theorem r_of4 {M : MM} {a : Nat → Int} {j : Nat} (h : j < 100) : f_X11_of (RF M a) (iI j) 4 = some (iI (a (58 + 8 * j)), RF M a) := by
  have e : (54 : Int32) + 8 * iI j + 4 = iI ((58 + 8 * j : Nat)) := by rw [Z54, Z8, Z4, iI_mul, iI_add, iI_add]; refine congrArg iI ?_; omega
  unfold f_X11_of
  simp only [e, if_pos (vinI (show 58 + 8 * j < 1254 by omega) (by omega)), iI_lo (show 58 + 8 * j < 2147483648 by omega), RF_21]
theorem r_of5 {M : MM} {a : Nat → Int} {j : Nat} (h : j < 100) : f_X11_of (RF M a) (iI j) 5 = some (iI (a (59 + 8 * j)), RF M a) := by
  have e : (54 : Int32) + 8 * iI j + 5 = iI ((59 + 8 * j : Nat)) := by rw [Z54, Z8, Z5, iI_mul, iI_add, iI_add]; refine congrArg iI ?_; omega
  unfold f_X11_of
  simp only [e, if_pos (vinI (show 59 + 8 * j < 1254 by omega) (by omega)), iI_lo (show 59 + 8 * j < 2147483648 by omega), RF_21]
theorem r_of6 {M : MM} {a : Nat → Int} {j : Nat} (h : j < 100) : f_X11_of (RF M a) (iI j) 6 = some (iI (a (60 + 8 * j)), RF M a) := by
  have e : (54 : Int32) + 8 * iI j + 6 = iI ((60 + 8 * j : Nat)) := by rw [Z54, Z8, Z6, iI_mul, iI_add, iI_add]; refine congrArg iI ?_; omega
  unfold f_X11_of
  simp only [e, if_pos (vinI (show 60 + 8 * j < 1254 by omega) (by omega)), iI_lo (show 60 + 8 * j < 2147483648 by omega), RF_21]
theorem r_of7 {M : MM} {a : Nat → Int} {j : Nat} (h : j < 100) : f_X11_of (RF M a) (iI j) 7 = some (iI (a (61 + 8 * j)), RF M a) := by
  have e : (54 : Int32) + 8 * iI j + 7 = iI ((61 + 8 * j : Nat)) := by rw [Z54, Z8, Z7, iI_mul, iI_add, iI_add]; refine congrArg iI ?_; omega
  unfold f_X11_of
  simp only [e, if_pos (vinI (show 61 + 8 * j < 1254 by omega) (by omega)), iI_lo (show 61 + 8 * j < 2147483648 by omega), RF_21]
theorem r_oo0 {M : MM} {a : Nat → Int} {j : Nat} (h : j < 100) : f_X11_ofOrder (RF M a) (iI j) 0 = some (iI (a (854 + 4 * j)), RF M a) := by
  have e : (854 : Int32) + 4 * iI j + 0 = iI ((854 + 4 * j : Nat)) := by rw [Z854, Z4, Z0, iI_mul, iI_add, iI_add]; refine congrArg iI ?_; omega
  unfold f_X11_ofOrder
  simp only [e, if_pos (vinI (show 854 + 4 * j < 1254 by omega) (by omega)), iI_lo (show 854 + 4 * j < 2147483648 by omega), RF_21]
theorem r_oo1 {M : MM} {a : Nat → Int} {j : Nat} (h : j < 100) : f_X11_ofOrder (RF M a) (iI j) 1 = some (iI (a (855 + 4 * j)), RF M a) := by
  have e : (854 : Int32) + 4 * iI j + 1 = iI ((855 + 4 * j : Nat)) := by rw [Z854, Z4, Z1, iI_mul, iI_add, iI_add]; refine congrArg iI ?_; omega
  unfold f_X11_ofOrder
  simp only [e, if_pos (vinI (show 855 + 4 * j < 1254 by omega) (by omega)), iI_lo (show 855 + 4 * j < 2147483648 by omega), RF_21]
theorem r_oo2 {M : MM} {a : Nat → Int} {j : Nat} (h : j < 100) : f_X11_ofOrder (RF M a) (iI j) 2 = some (iI (a (856 + 4 * j)), RF M a) := by
  have e : (854 : Int32) + 4 * iI j + 2 = iI ((856 + 4 * j : Nat)) := by rw [Z854, Z4, Z2, iI_mul, iI_add, iI_add]; refine congrArg iI ?_; omega
  unfold f_X11_ofOrder
  simp only [e, if_pos (vinI (show 856 + 4 * j < 1254 by omega) (by omega)), iI_lo (show 856 + 4 * j < 2147483648 by omega), RF_21]
theorem r_oo3 {M : MM} {a : Nat → Int} {j : Nat} (h : j < 100) : f_X11_ofOrder (RF M a) (iI j) 3 = some (iI (a (857 + 4 * j)), RF M a) := by
  have e : (854 : Int32) + 4 * iI j + 3 = iI ((857 + 4 * j : Nat)) := by rw [Z854, Z4, Z3, iI_mul, iI_add, iI_add]; refine congrArg iI ?_; omega
  unfold f_X11_ofOrder
  simp only [e, if_pos (vinI (show 857 + 4 * j < 1254 by omega) (by omega)), iI_lo (show 857 + 4 * j < 2147483648 by omega), RF_21]
theorem r_isLot {M : MM} {a : Nat → Int} {x : Int} (hx : B31 x) (h : 0 ≤ a 8 ∧ a 8 ≤ 100) : f_X11_isLot (RF M a) (iI x) = some (dI (0 ≤ x ∧ x ≤ a 8 - 1), RF M a) := by
  unfold f_X11_isLot
  rw [if_pos (show vin (8 : Int32) 1254 from by decide), show (8 : Int32).toNatClampNeg = 8 from by decide, RF_21, Z0, Z1, iI_sub, r_in hx (by omega) (by omega), bnd2_s]
theorem r_isBell {M : MM} {a : Nat → Int} {x : Int} (hx : B31 x) (h : 0 ≤ a 52 ∧ a 52 ≤ 100) : f_X11_isBell (RF M a) (iI x) = some (dI (0 ≤ x ∧ x ≤ a 52 - 1), RF M a) := by
  unfold f_X11_isBell
  rw [if_pos (show vin (52 : Int32) 1254 from by decide), show (52 : Int32).toNatClampNeg = 52 from by decide, RF_21, Z0, Z1, iI_sub, r_in hx (by omega) (by omega), bnd2_s]
theorem r_isOrder {M : MM} {a : Nat → Int} {x : Int} (hx : B31 x) (h : 0 ≤ a 53 ∧ a 53 ≤ 100) : f_X11_isOrder (RF M a) (iI x) = some (dI (0 ≤ x ∧ x ≤ a 53 - 1), RF M a) := by
  unfold f_X11_isOrder
  rw [if_pos (show vin (53 : Int32) 1254 from by decide), show (53 : Int32).toNatClampNeg = 53 from by decide, RF_21, Z0, Z1, iI_sub, r_in hx (by omega) (by omega), bnd2_s]
theorem r_isHere {M : MM} {a : Nat → Int} {j : Nat} (h : j < 100) (hs : 0 ≤ a (60 + 8 * j) ∧ a (60 + 8 * j) ≤ 3) : f_X11_isHere (RF M a) (iI j) = some (dI (a (60 + 8 * j) < 2), RF M a) := by
  unfold f_X11_isHere
  rw [r_of6 h, bnd2_s]
  by_cases c : a (60 + 8 * j) < 2
  · rw [if_neg (by rw [Z2, iI_le (by omega) (by omega)]; omega), dI_t c]
  · rw [if_pos (by rw [Z2, iI_le (by omega) (by omega)]; omega), dI_f c]
theorem r_burnt0 {M : MM} {a : Nat → Int} {p : Int} (h : 0 ≤ p) (h2 : p ≤ 20000000) (hs : 0 ≤ a 45) (hs2 : a 45 ≤ 100) : f_X11_burnt (RF M a) (iI p) 0 = some (iI (sh p (a 45)), RF M a) := by
  have h3 := Int.mul_nonneg h hs
  have h4 : p * a 45 ≤ p * 100 := Int.mul_le_mul_of_nonneg_left hs2 h
  unfold f_X11_burnt
  rw [r_set0, bnd2_s, Z999, Z1000, iI_mul, iI_add, iI_div (by omega) (by omega) (by omega) (by omega)]; rfl
theorem r_burnt1 {M : MM} {a : Nat → Int} {p : Int} (h : 0 ≤ p) (h2 : p ≤ 20000000) (hs : 0 ≤ a 46) (hs2 : a 46 ≤ 100) : f_X11_burnt (RF M a) (iI p) 1 = some (iI (sh p (a 46)), RF M a) := by
  have h3 := Int.mul_nonneg h hs
  have h4 : p * a 46 ≤ p * 100 := Int.mul_le_mul_of_nonneg_left hs2 h
  unfold f_X11_burnt
  rw [r_set1, bnd2_s, Z999, Z1000, iI_mul, iI_add, iI_div (by omega) (by omega) (by omega) (by omega)]; rfl
theorem r_sprueOf {M : MM} {a : Nat → Int} {p : Int} (h : 0 ≤ p) (h2 : p ≤ 20000) (hs : 0 ≤ a 49) (hs2 : a 49 ≤ 300) : f_X11_sprueOf (RF M a) (iI p) = some (iI (sh p (a 49)), RF M a) := by
  have h3 := Int.mul_nonneg h hs
  have h4 : p * a 49 ≤ p * 300 := Int.mul_le_mul_of_nonneg_left hs2 h
  unfold f_X11_sprueOf
  rw [r_set4, bnd2_s, Z999, Z1000, iI_mul, iI_add, iI_div (by omega) (by omega) (by omega) (by omega)]; rfl
/-- moves -/
def mv (a : Nat → Int) (p q : Nat) (c t : Int) : Nat → Int := uI (uI (uI (uI a p (a p - c)) (p + 1) (a (p + 1) - t)) q (uI (uI a p (a p - c)) (p + 1) (a (p + 1) - t) q + c)) (q + 1) (uI (uI a p (a p - c)) (p + 1) (a (p + 1) - t) (q + 1) + t)
theorem r_moves {M : MM} {a : Nat → Int} {p q : Nat} {c t : Int} (hp : p + 1 < 1254) (hq : q + 1 < 1254) : f_X11_moves (RF M a) (iI p) (iI q) (iI c) (iI t) = some ((), RF M (mv a p q c t)) := by
  have e : iI p + 1 = iI ((p + 1 : Nat)) := by rw [Z1, iI_add]; congr 1
  have e2 : iI q + 1 = iI ((q + 1 : Nat)) := by rw [Z1, iI_add]; congr 1
  unfold f_X11_moves mv
  simp only [e, e2, if_pos (vinI (show p < 1254 by omega) (by omega)), if_pos (vinI hp (by omega)), if_pos (vinI (show q < 1254 by omega) (by omega)), if_pos (vinI hq (by omega)), iI_lo (show p < 2147483648 by omega), iI_lo (show p + 1 < 2147483648 by omega), iI_lo (show q < 2147483648 by omega), iI_lo (show q + 1 < 2147483648 by omega), RF_21, iI_add, iI_sub, up2_RF, letB_e, uI_n (show p + 1 ≠ p by omega), uI_n (show q + 1 ≠ q by omega)]
theorem r_draws {M : MM} {a : Nat → Int} {p q : Nat} {n : Int} (hp : p + 1 < 1254) (hq : q + 1 < 1254) (hn : 0 ≤ n) (hn2 : n < 2147483648) (hc : 0 ≤ a p) (ht : 0 ≤ a (p + 1)) (hB : a p + a (p + 1) < 2147483648) (hw : n ≤ a p + a (p + 1)) : f_X11_draws (RF M a) (iI p) (iI q) (iI n) = some ((), RF M (mv a p q (cin n (a p) (a (p + 1))) (n - cin n (a p) (a (p + 1))))) := by
  have e : iI p + 1 = iI ((p + 1 : Nat)) := by rw [Z1, iI_add]; congr 1
  unfold f_X11_draws
  simp only [e, if_pos (vinI (show p < 1254 by omega) (by omega)), if_pos (vinI hp (by omega)), iI_lo (show p < 2147483648 by omega), iI_lo (show p + 1 < 2147483648 by omega), RF_21]
  rw [r_copperIn hn hn2 hc ht hB hw, bnd2_s, iI_sub, r_moves hp hq, bnd2_s]
theorem r_burns {M : MM} {a : Nat → Int} {p : Nat} (hp : p + 1 < 1254) (hc : 0 ≤ a p) (ht : 0 ≤ a (p + 1)) (hc2 : a p ≤ 20000000) (ht2 : a (p + 1) ≤ 20000000) (hs : BS a) : f_X11_burns (RF M a) (iI p) = some ((), RF M (mv a p 4 (sh (a p) (a 45)) (sh (a (p + 1)) (a 46)))) := by
  have e : iI p + 1 = iI ((p + 1 : Nat)) := by rw [Z1, iI_add]; congr 1
  unfold BS at hs
  unfold f_X11_burns
  simp only [e, if_pos (vinI (show p < 1254 by omega) (by omega)), if_pos (vinI hp (by omega)), iI_lo (show p < 2147483648 by omega), iI_lo (show p + 1 < 2147483648 by omega), RF_21]
  rw [r_burnt0 hc hc2 (by omega) (by omega), bnd2_s]
  simp only [RF_21]
  rw [r_burnt1 ht ht2 (by omega) (by omega), bnd2_s, show (4 : Int32) = iI (4 : Nat) from rfl, r_moves hp (by omega), bnd2_s]
/-- where pounds that come lie -/
def com (a : Nat → Int) (kd : Int) : Nat → Int := if a 8 = 12 then a else uI (uI (uI (uI a 8 (a 8 + 1)) (9 + 3 * (a 8).toNat) 0) (10 + 3 * (a 8).toNat) 0) (11 + 3 * (a 8).toNat) kd
def cAt (a : Nat → Int) : Nat := if a 8 = 12 then 42 else 9 + 3 * (a 8).toNat
theorem r_comes {M : MM} {a : Nat → Int} {kd : Int} (h : 0 ≤ a 8 ∧ a 8 ≤ 12) : f_X11_comes (RF M a) (iI kd) = some (iI ((cAt a : Nat)), RF M (com a kd)) := by
  unfold f_X11_comes com cAt
  have v8 : vin (8 : Int32) 1254 := by decide
  have t8 : (8 : Int32).toNatClampNeg = 8 := by decide
  by_cases c : a 8 = 12
  · simp only [if_pos v8, t8, RF_21]
    rw [if_pos (by rw [c]; rfl), if_pos c, if_pos c]; rfl
  · have e0 : (9 : Int32) + 3 * iI (a 8) = iI ((9 + 3 * (a 8).toNat : Nat)) := by rw [Z9, Z3, iI_mul, iI_add]; congr 1; omega
    have e1 : iI (((9 + 3 * (a 8).toNat : Nat) : Int) + 1) = iI ((10 + 3 * (a 8).toNat : Nat)) := by congr 1; omega
    have e2 : iI (((9 + 3 * (a 8).toNat : Nat) : Int) + 2) = iI ((11 + 3 * (a 8).toNat : Nat)) := by congr 1; omega
    have c' : ¬ iI (a 8) = 12 := by rw [Z12, iI_inj (by omega) (by omega)]; exact c
    simp only [if_pos v8, t8, RF_21, if_neg c', if_neg c, e0, e1, e2, if_pos (vinI (show 9 + 3 * (a 8).toNat < 1254 by omega) (by omega)), if_pos (vinI (show 10 + 3 * (a 8).toNat < 1254 by omega) (by omega)), if_pos (vinI (show 11 + 3 * (a 8).toNat < 1254 by omega) (by omega)), iI_lo (show 9 + 3 * (a 8).toNat < 2147483648 by omega), iI_lo (show 10 + 3 * (a 8).toNat < 2147483648 by omega), iI_lo (show 11 + 3 * (a 8).toNat < 2147483648 by omega), letB_e, Z1, Z2, iI_add, up2_RF, Z0]
theorem com_n {a : Nat → Int} {kd : Int} {q : Nat} (h : 0 ≤ a 8 ∧ a 8 ≤ 12) (hq : q < 8 ∨ 45 ≤ q) : com a kd q = a q := by
  unfold com
  split
  · rfl
  · rw [uI_n (by omega), uI_n (by omega), uI_n (by omega), uI_n (by omega)]
def scr (a : Nat → Int) (p : Nat) (n kd : Int) : Nat → Int := if n ≤ 0 then a else mv (com a kd) p (cAt a) (cin n (a p) (a (p + 1))) (n - cin n (a p) (a (p + 1)))
theorem r_scraps {M : MM} {a : Nat → Int} {p : Nat} {n kd : Int} (hp : p + 1 < 1254) (hp2 : p + 1 < 8 ∨ 45 ≤ p) (h8 : 0 ≤ a 8 ∧ a 8 ≤ 12) (hn : 0 ≤ n) (hn2 : n < 2147483648) (hc : 0 ≤ a p) (ht : 0 ≤ a (p + 1)) (hB : a p + a (p + 1) < 2147483648) (hw : n ≤ a p + a (p + 1)) : f_X11_scraps (RF M a) (iI p) (iI n) (iI kd) = some ((), RF M (scr a p n kd)) := by
  unfold f_X11_scraps scr
  by_cases c : n ≤ 0
  · rw [if_pos (by rw [Z0, iI_le (by omega) (by omega)]; exact c), if_pos c]
  · rw [if_neg (by rw [Z0, iI_le (by omega) (by omega)]; exact c), if_neg c, r_comes h8, bnd2_s]
    have e1 : com a kd p = a p := com_n h8 (by omega)
    have e2 : com a kd (p + 1) = a (p + 1) := com_n h8 (by omega)
    have hat : cAt a + 1 < 1254 := by unfold cAt; split <;> omega
    rw [r_draws hp hat hn hn2 (by rw [e1]; exact hc) (by rw [e2]; exact ht) (by rw [e1, e2]; exact hB) (by rw [e1, e2]; exact hw), bnd2_s, e1, e2]
def low (pi tu n w : Int) : Int := if pi - tu * 1000 * n / w < 1 then 1 else pi - tu * 1000 * n / w
theorem r_lowered {M : MM} {a : Nat → Int} {j : Nat} {n : Int} (h : j < 100) (hn : 0 ≤ n) (hn2 : n ≤ 1000) (hp : 0 ≤ a (57 + 8 * j) ∧ a (57 + 8 * j) ≤ 2000000) (hs : BS a) (hw : 0 < a (54 + 8 * j) + a (55 + 8 * j)) (hw2 : a (54 + 8 * j) + a (55 + 8 * j) ≤ 10000) : f_X11_lowered (RF M a) (iI j) (iI n) = some (iI (low (a (57 + 8 * j)) (a 50) n (a (54 + 8 * j) + a (55 + 8 * j))), RF M a) := by
  unfold BS at hs
  have h1 : 0 ≤ a 50 * 1000 * n := Int.mul_nonneg (by omega) hn
  have h2 : a 50 * 1000 * n ≤ 50000 * n := Int.mul_le_mul_of_nonneg_right (by omega) hn
  have h3 : 0 ≤ a 50 * 1000 * n / (a (54 + 8 * j) + a (55 + 8 * j)) := Int.ediv_nonneg h1 (by omega)
  have h4 : a 50 * 1000 * n / (a (54 + 8 * j) + a (55 + 8 * j)) ≤ a 50 * 1000 * n := Int.ediv_le_self _ h1
  unfold f_X11_lowered low
  rw [r_of3 h, bnd2_s, r_set5, bnd2_s, r_atBell, bnd2_s, r_weightB h, bnd2_s, if_neg (by rw [Z0, iI_inj (by omega) (by omega)]; omega), Z1000, iI_mul, iI_mul, iI_div h1 (by omega) hw (by omega), iI_sub]
  by_cases c : a (57 + 8 * j) - a 50 * 1000 * n / (a (54 + 8 * j) + a (55 + 8 * j)) < 1
  · rw [if_neg (by rw [Z1, iI_le (by omega) (by omega)]; omega), if_pos c]; rfl
  · rw [if_pos (by rw [Z1, iI_le (by omega) (by omega)]; omega), if_neg c]
abbrev crk (dr n pf po : Int) : Prop := (dr + n) * (if pf = 2 then 20 else 10) > po
theorem r_wouldCrack {M : MM} {a : Nat → Int} {j : Nat} {n : Int} (h : j < 100) (hn : 0 ≤ n) (hn2 : n ≤ 1000) (hd : 0 ≤ a (59 + 8 * j) ∧ a (59 + 8 * j) ≤ 20000000) (hpf : 0 ≤ a (56 + 8 * j) ∧ a (56 + 8 * j) ≤ 3) (hpo : 1 ≤ a (58 + 8 * j) ∧ a (58 + 8 * j) ≤ 10000) : f_X11_wouldCrack (RF M a) (iI j) (iI n) = some (dI (crk (a (59 + 8 * j)) n (a (56 + 8 * j)) (a (58 + 8 * j))), RF M a) := by
  unfold f_X11_wouldCrack
  rw [r_of5 h, bnd2_s, r_of2 h, bnd2_s]
  by_cases c : a (56 + 8 * j) = 2
  · rw [if_pos (by rw [c]; rfl), r_of4 h, bnd2_s, iI_add, Z20, iI_mul]
    by_cases d : (a (59 + 8 * j) + n) * 20 ≤ a (58 + 8 * j)
    · rw [if_pos (by rw [iI_le (by omega) (by omega)]; exact d), dI_f (by rw [crk, if_pos c]; omega)]
    · rw [if_neg (by rw [iI_le (by omega) (by omega)]; exact d), dI_t (by rw [crk, if_pos c]; omega)]
  · rw [if_neg (by rw [Z2, iI_inj (by omega) (by omega)]; exact c), r_of4 h, bnd2_s, iI_add, Z10, iI_mul]
    by_cases d : (a (59 + 8 * j) + n) * 10 ≤ a (58 + 8 * j)
    · rw [if_pos (by rw [iI_le (by omega) (by omega)]; exact d), dI_f (by rw [crk, if_neg c]; omega)]
    · rw [if_neg (by rw [iI_le (by omega) (by omega)]; exact d), dI_t (by rw [crk, if_neg c]; omega)]
theorem r_isPitch {M : MM} {a : Nat → Int} {j : Nat} {p : Int} (h : j < 100) (hp : 0 ≤ p ∧ p ≤ 2000000) (ho : BO a j) : f_X11_isPitch (RF M a) (iI p) (iI j) = some (dI (-(a (856 + 4 * j)) ≤ p - a (855 + 4 * j) ∧ p - a (855 + 4 * j) ≤ a (856 + 4 * j)), RF M a) := by
  unfold BO at ho
  unfold f_X11_isPitch
  rw [r_oo1 h, bnd2_s, r_oo2 h, bnd2_s, r_oo2 h, bnd2_s, iI_sub, iI_neg, r_in (by omega) (by omega) (by omega), bnd2_s]
abbrev fit (a : Nat → Int) (b o : Nat) : Prop := a (60 + 8 * b) = 0 ∧ a (56 + 8 * b) = a (854 + 4 * o) ∧ (-(a (856 + 4 * o)) ≤ a (57 + 8 * b) - a (855 + 4 * o) ∧ a (57 + 8 * b) - a (855 + 4 * o) ≤ a (856 + 4 * o))
theorem r_fits {k : Int} {M : MM} {a : Nat → Int} {b o : Nat} (hb : b < 100) (ho : o < 100) (B : BB k a b) (O : BO a o) : f_X11_fits (RF M a) (iI b) (iI o) = some (dI (fit a b o), RF M a) := by
  obtain ⟨b1, b2, b3, b4, b5, b6, b7, b8, b9⟩ := B
  have O' := O
  unfold BO at O'
  unfold f_X11_fits
  rw [r_of6 hb, bnd2_s]
  by_cases c : a (60 + 8 * b) = 0
  · rw [if_pos (by rw [c]; rfl), r_of2 hb, bnd2_s, r_oo0 ho, bnd2_s]
    by_cases d : a (56 + 8 * b) = a (854 + 4 * o)
    · rw [if_pos (by rw [d]), r_of3 hb, bnd2_s, r_isPitch ho b3 O, bnd2_s]
      by_cases e : -(a (856 + 4 * o)) ≤ a (57 + 8 * b) - a (855 + 4 * o) ∧ a (57 + 8 * b) - a (855 + 4 * o) ≤ a (856 + 4 * o)
      · rw [ify e, dI_t (show fit a b o from ⟨c, d, e⟩)]
      · rw [ifn e, dI_f (fun q => e q.2.2)]
    · rw [if_neg (by rw [iI_inj (by omega) (by omega)]; exact d), dI_f (fun q => d q.2.1)]
  · rw [if_neg (by rw [Z0, iI_inj (by omega) (by omega)]; exact c), dI_f (fun q => c q.1)]
