/-! What the class's questions answer, out of its state alone. -/
section QRY
variable {k : Int} {M : MM} {a : Nat → Int} {n : Nat} {H : Nat → Nat → Int} {L : Nat} {t : Nat → Int}
theorem q_count (vc : VC M a n H L t) (vb : VB k a n H L t) {X : Int} (hX : B31 X) : f_X10_count M (iI X) = some (iI (cntR a n L X), M) := by
  have R := vc.1
  have hM := vb.1.1
  unfold BM at hM
  have hB := vb.1.2.2.2.1
  have hO := vb.1.2.2.2.2.1
  unfold f_X10_count cntR
  by_cases h0 : X = 0
  · subst h0; rw [if_pos (show iI 0 = 0 from rfl), R.lo (by omega), if_pos rfl]
  rw [if_neg (by rw [Z0, iI_inj hX (by omega)]; exact h0), if_neg h0]
  by_cases h1 : X = 1
  · subst h1; rw [if_pos (show iI 1 = 1 from rfl), R.nb, if_pos rfl]
  rw [if_neg (by rw [Z1, iI_inj hX (by omega)]; exact h1), if_neg h1]
  by_cases h2 : X = 2
  · subst h2; rw [if_pos (show iI 2 = 2 from rfl), c_remaining R (by omega) hB, bnd2_s, if_pos rfl]
  rw [if_neg (by rw [Z2, iI_inj hX (by omega)]; exact h2), if_neg h2]
  by_cases h3 : X = 3
  · subst h3; rw [if_pos (show iI 3 = 3 from rfl), show f_X9_bellsIn M 0 1 = _ from c_bellsIn R (s := 1) (by omega) hB (by omega), bnd2_s, if_pos rfl]
  rw [if_neg (by rw [Z3, iI_inj hX (by omega)]; exact h3), if_neg h3]
  by_cases h4 : X = 4
  · subst h4; rw [if_pos (show iI 4 = 4 from rfl), show f_X9_bellsIn M 0 2 = _ from c_bellsIn R (s := 2) (by omega) hB (by omega), bnd2_s, if_pos rfl]
  rw [if_neg (by rw [Z4, iI_inj hX (by omega)]; exact h4), if_neg h4]
  by_cases h5 : X = 5
  · subst h5; rw [if_pos (show iI 5 = 5 from rfl), R.no, if_pos rfl]
  rw [if_neg (by rw [Z5, iI_inj hX (by omega)]; exact h5), if_neg h5]
  by_cases h6 : X = 6
  · subst h6; rw [if_pos (show iI 6 = 6 from rfl), show f_X9_ordersIn M 0 0 = _ from c_ordersIn R (s := 0) (by omega) hO (by omega), bnd2_s, if_pos rfl]
  rw [if_neg (by rw [Z6, iI_inj hX (by omega)]; exact h6), if_neg h6]
  by_cases h7 : X = 7
  · subst h7; rw [if_pos (show iI 7 = 7 from rfl), show f_X9_ordersIn M 0 1 = _ from c_ordersIn R (s := 1) (by omega) hO (by omega), bnd2_s, if_pos rfl]
  rw [if_neg (by rw [Z7, iI_inj hX (by omega)]; exact h7), if_neg h7]
  by_cases h8 : X = 8
  · subst h8; rw [if_pos (show iI 8 = 8 from rfl), vc.2.1.1, if_pos rfl]
  rw [if_neg (by rw [Z8, iI_inj hX (by omega)]; exact h8), if_neg h8]
  by_cases h9 : X = 9
  · subst h9; rw [if_pos (show iI 9 = 9 from rfl), vc.2.2.1, if_pos rfl]
  rw [if_neg (by rw [Z9, iI_inj hX (by omega)]; exact h9), if_neg h9, e_inL 20 26 hX Z20 Z26 (by omega) (by omega), bnd2_s]
  by_cases hr : 20 ≤ X ∧ X ≤ 26
  · have e : iI X - 20 = iI (((X - 20).toNat : Nat) : Int) := by rw [Z20, iI_sub]; congr 1; omega
    have se := R.se (j := (X - 20).toNat) (by omega)
    rw [ify hr, if_pos hr]
    simp only [e, if_pos (vinI (show (X - 20).toNat < 7 by omega) (by omega)), iI_lo (show (X - 20).toNat < 2147483648 by omega), Nat.add_zero, se]
  · rw [ifn hr, if_neg hr]; rfl
theorem q_account (vc : VC M a n H L t) (vb : VB k a n H L t) {m : Nat} {Y : Int} (hm : m ≤ 1) (hY : B31 Y) : f_X10_account M (iI m) (iI Y) = some (iI (accR a m Y), M) := by
  have R := vc.1
  have hM := vb.1.1
  unfold BM at hM
  have hB := vb.1.2.2.2.1
  unfold f_X10_account accR
  rw [e_isMetal (by omega), bnd2_s, ify (by omega)]
  by_cases h0 : Y = 0
  · subst h0; rw [if_pos (show iI 0 = 0 from rfl), c_of M 0 2 hm, bnd2_s, R.lo (by omega), if_pos rfl]
  rw [if_neg (by rw [Z0, iI_inj hY (by omega)]; exact h0), if_neg h0]
  by_cases h1 : Y = 1
  · subst h1; rw [if_pos (show iI 1 = 1 from rfl), c_of M 0 0 hm, bnd2_s, R.lo (by omega), if_pos rfl, Nat.zero_add]
  rw [if_neg (by rw [Z1, iI_inj hY (by omega)]; exact h1), if_neg h1]
  by_cases h2 : Y = 2
  · subst h2; rw [if_pos (show iI 2 = 2 from rfl), c_of M 0 6 hm, bnd2_s, R.lo (by omega), if_pos rfl]
  rw [if_neg (by rw [Z2, iI_inj hY (by omega)]; exact h2), if_neg h2]
  by_cases h3 : Y = 3
  · subst h3
    have q := l_X2of R hm (nb := (a 8).toNat) (by omega) (a 8).toNat FU 0 (Nat.zero_add _) (by unfold FU; omega)
    rw [if_pos (show iI 3 = 3 from rfl), show f_X2_of M 0 (iI m) = _ from q, bnd2_s, if_pos rfl]
  rw [if_neg (by rw [Z3, iI_inj hY (by omega)]; exact h3), if_neg h3]
  by_cases h4 : Y = 4
  · subst h4
    rw [if_pos (show iI 4 = 4 from rfl), show f_X9_inBells M 0 (iI m) 0 = _ from c_inBells R hm (s := 0) (by omega) hB (by omega), bnd2_s, show f_X9_inBells M 0 (iI m) 1 = _ from c_inBells R hm (s := 1) (by omega) hB (by omega), bnd2_s, iI_add, sm_two (fun b hb => (hB b hb).2.2.2.2.2.1.1), if_pos rfl]
  rw [if_neg (by rw [Z4, iI_inj hY (by omega)]; exact h4), if_neg h4]
  by_cases h5 : Y = 5
  · subst h5
    rw [if_pos (show iI 5 = 5 from rfl), show f_X9_inBells M 0 (iI m) 2 = _ from c_inBells R hm (s := 2) (by omega) hB (by omega), bnd2_s, if_pos rfl]
  rw [if_neg (by rw [Z5, iI_inj hY (by omega)]; exact h5), if_neg h5]
  by_cases h6 : Y = 6
  · subst h6; rw [if_pos (show iI 6 = 6 from rfl), c_of M 0 4 hm, bnd2_s, R.lo (by omega), if_pos rfl]
  rw [if_neg (by rw [Z6, iI_inj hY (by omega)]; exact h6), if_neg h6]; rfl
def lotR (a : Nat → Int) (j : Nat) (Y : Int) : Int := if Y = 4 then a (11 + 3 * j) else tel (a (9 + 3 * j)) (a (10 + 3 * j)) Y
theorem q_lot (hk : k ≤ 1000) (vc : VC M a n H L t) (vb : VB k a n H L t) {j : Nat} (hj : j < (a 8).toNat) {Y : Int} (hy : 0 ≤ Y ∧ Y ≤ 4) : f_X10_lot M (iI j) (iI Y) = some (iI (lotR a j Y), M) := by
  have R := vc.1
  have hM' := vb.1.1
  unfold BM at hM'
  have hl := vb.1.2.2.1 j (by omega)
  unfold BL at hl
  unfold f_X10_lot optE lotR
  rw [lotAt_some R hj, bnd2_s]
  simp only
  rw [e_inL 0 4 (by omega) Z0 Z4 (by omega) (by omega), bnd2_s, ify hy]
  by_cases h4 : Y = 4
  · subst h4
    rw [if_pos (show iI 4 = 4 from rfl), R.l2 hj, if_pos rfl]
  · rw [if_neg (by rw [Z4, iI_inj (by omega) (by omega)]; exact h4), e_tell (R.l0 hj) (R.l1 hj) (by omega) (by omega) (by omega) hy.1 (by omega), bnd2_s, if_neg h4]; rfl
theorem q_lot_no (vc : VC M a n H L t) (vb : VB k a n H L t) {X Y : Int} (hX : B31 X) (hx : ¬ (0 ≤ X ∧ X ≤ a 8 - 1)) : f_X10_lot M (iI X) (iI Y) = some (-1, M) := by
  have hM' := vb.1.1
  unfold BM at hM'
  unfold f_X10_lot
  rw [lotAt_none vc.1 (by omega) hX hx, bnd2_s]; rfl
def belR (a : Nat → Int) (j : Nat) (Y : Int) : Int := if Y < 4 then (if a (60 + 8 * j) = 3 then -4 else tel (a (54 + 8 * j)) (a (55 + 8 * j)) Y) else if Y = 4 then a (56 + 8 * j) else if Y = 5 then a (57 + 8 * j) else if Y = 6 then a (58 + 8 * j) else if Y = 7 then a (59 + 8 * j) else if Y = 8 then a (60 + 8 * j) else a (61 + 8 * j)
theorem q_bell (vc : VC M a n H L t) (vb : VB k a n H L t) {j : Nat} (hj : j < (a 52).toNat) {Y : Int} (hy : 0 ≤ Y ∧ Y ≤ 9) : f_X10_bell M (iI j) (iI Y) = some (iI (belR a j Y), M) := by
  have R := vc.1
  have hM' := vb.1.1
  unfold BM at hM'
  obtain ⟨b1, b2, b3, b4, b5, b6, b7, b8, b9⟩ := vb.1.2.2.2.1 j hj
  unfold f_X10_bell optE belR
  rw [bellAt_some R hj, bnd2_s]
  simp only
  rw [e_inL 0 9 (by omega) Z0 Z9 (by omega) (by omega), bnd2_s, ify hy]
  by_cases h4 : Y < 4
  · rw [if_pos h4, if_neg (by rw [Z4, iI_inj (by omega) (by omega)]; omega), if_neg (by rw [Z5, iI_inj (by omega) (by omega)]; omega), if_neg (by rw [Z6, iI_inj (by omega) (by omega)]; omega), if_neg (by rw [Z7, iI_inj (by omega) (by omega)]; omega), if_neg (by rw [Z8, iI_inj (by omega) (by omega)]; omega), if_neg (by rw [Z9, iI_inj (by omega) (by omega)]; omega), R.b6 hj]
    by_cases h3 : a (60 + 8 * j) = 3
    · rw [if_pos h3, if_pos (by rw [h3]; rfl)]; rfl
    · rw [if_neg h3, if_neg (by rw [Z3, iI_inj (by omega) (by omega)]; exact h3), e_tell (R.b0 hj) (R.b1 hj) (by omega) (by omega) (by omega) hy.1 (by omega), bnd2_s]; rfl
  · have hq : Y = 4 ∨ Y = 5 ∨ Y = 6 ∨ Y = 7 ∨ Y = 8 ∨ Y = 9 := by omega
    rw [if_neg h4]
    rcases hq with rfl | rfl | rfl | rfl | rfl | rfl
    · rw [if_pos (show iI 4 = 4 from rfl), R.b2 hj]; rfl
    · rw [if_neg (show ¬ iI 5 = 4 from by decide), if_pos (show iI 5 = 5 from rfl), R.b3 hj]; rfl
    · rw [if_neg (show ¬ iI 6 = 4 from by decide), if_neg (show ¬ iI 6 = 5 from by decide), if_pos (show iI 6 = 6 from rfl), R.b4 hj]; rfl
    · rw [if_neg (show ¬ iI 7 = 4 from by decide), if_neg (show ¬ iI 7 = 5 from by decide), if_neg (show ¬ iI 7 = 6 from by decide), if_pos (show iI 7 = 7 from rfl), R.b5 hj]; rfl
    · rw [if_neg (show ¬ iI 8 = 4 from by decide), if_neg (show ¬ iI 8 = 5 from by decide), if_neg (show ¬ iI 8 = 6 from by decide), if_neg (show ¬ iI 8 = 7 from by decide), if_pos (show iI 8 = 8 from rfl), R.b6 hj]; rfl
    · rw [if_neg (show ¬ iI 9 = 4 from by decide), if_neg (show ¬ iI 9 = 5 from by decide), if_neg (show ¬ iI 9 = 6 from by decide), if_neg (show ¬ iI 9 = 7 from by decide), if_neg (show ¬ iI 9 = 8 from by decide), if_pos (show iI 9 = 9 from rfl), R.b6 hj]
      by_cases h2 : a (60 + 8 * j) = 2
      · rw [if_pos (by rw [h2]; rfl), R.b7 hj h2]; rfl
      · rw [if_neg (by rw [Z2, iI_inj (by omega) (by omega)]; exact h2), b8 h2]; rfl
theorem q_bell_no (vc : VC M a n H L t) (vb : VB k a n H L t) {X Y : Int} (hX : B31 X) (hx : ¬ (0 ≤ X ∧ X ≤ a 52 - 1)) : f_X10_bell M (iI X) (iI Y) = some (-1, M) := by
  have hM' := vb.1.1
  unfold BM at hM'
  unfold f_X10_bell
  rw [bellAt_none vc.1 (by omega) hX hx, bnd2_s]; rfl
def ordR (a : Nat → Int) (o : Nat) (Y : Int) : Int := if Y = 0 then a (854 + 4 * o) else if Y = 1 then a (855 + 4 * o) else if Y = 2 then a (856 + 4 * o) else if Y = 3 then a (857 + 4 * o) else if Y = 4 then lst (fP a o) (a 52).toNat (a 52).toNat else cn (fP a o) (a 52).toNat
theorem q_orderOf (vc : VC M a n H L t) (vb : VB k a n H L t) {o : Nat} (ho : o < (a 53).toNat) {Y : Int} (hy : 0 ≤ Y ∧ Y ≤ 5) : f_X10_orderOf M (iI o) (iI Y) = some (iI (ordR a o Y), M) := by
  have R := vc.1
  have hM := vb.1.1
  unfold BM at hM
  have hB := vb.1.2.2.2.1
  have Bo := vb.1.2.2.2.2.1 o ho
  unfold f_X10_orderOf optE ordR
  rw [orderAt_some R ho, bnd2_s]
  simp only
  have hq : Y = 0 ∨ Y = 1 ∨ Y = 2 ∨ Y = 3 ∨ Y = 4 ∨ Y = 5 := by omega
  rcases hq with rfl | rfl | rfl | rfl | rfl | rfl
  · rw [if_pos (show iI 0 = 0 from rfl), R.o0 ho]; rfl
  · rw [if_neg (show ¬ iI 1 = 0 from by decide), if_pos (show iI 1 = 1 from rfl), R.o1 ho]; rfl
  · rw [if_neg (show ¬ iI 2 = 0 from by decide), if_neg (show ¬ iI 2 = 1 from by decide), if_pos (show iI 2 = 2 from rfl), R.o2 ho]; rfl
  · rw [if_neg (show ¬ iI 3 = 0 from by decide), if_neg (show ¬ iI 3 = 1 from by decide), if_neg (show ¬ iI 3 = 2 from by decide), if_pos (show iI 3 = 3 from rfl), R.o3 ho]; rfl
  · have q := l_lowest R ho (nb := (a 52).toNat) (by omega) hB Bo (a 52).toNat FU (Nat.le_refl _) (by unfold FU; omega)
    rw [Nat.sub_self] at q
    rw [if_neg (show ¬ iI 4 = 0 from by decide), if_neg (show ¬ iI 4 = 1 from by decide), if_neg (show ¬ iI 4 = 2 from by decide), if_neg (show ¬ iI 4 = 3 from by decide), if_pos (show iI 4 = 4 from rfl), show f_X9_lowestBellFor M 0 o = _ from q, bnd2_s]; rfl
  · have q := l_bellsFor R ho (nb := (a 52).toNat) (by omega) hB Bo (a 52).toNat FU 0 (Nat.zero_add _) (by unfold FU; omega)
    rw [if_neg (show ¬ iI 5 = 0 from by decide), if_neg (show ¬ iI 5 = 1 from by decide), if_neg (show ¬ iI 5 = 2 from by decide), if_neg (show ¬ iI 5 = 3 from by decide), if_neg (show ¬ iI 5 = 4 from by decide), if_pos (show iI 5 = 5 from rfl), show f_X9_bellsFor M 0 o = _ from q, bnd2_s]; rfl
theorem q_orderOf_no (vc : VC M a n H L t) (vb : VB k a n H L t) {X Y : Int} (hX : B31 X) (hx : ¬ (0 ≤ X ∧ X ≤ a 53 - 1)) : f_X10_orderOf M (iI X) (iI Y) = some (-1, M) := by
  have hM' := vb.1.1
  unfold BM at hM'
  unfold f_X10_orderOf
  rw [orderAt_none vc.1 (by omega) hX hx, bnd2_s]; rfl
def tunR (a : Nat → Int) (b o : Nat) : Int := if a (60 + 8 * b) = 0 then (if fit a b o then 0 else if a (56 + 8 * b) = a (854 + 4 * o) then tF a b o 1000 else -4) else -2
theorem q_tuneFor (hk : k ≤ 1000) (vc : VC M a n H L t) (vb : VB k a n H L t) {b o : Nat} (hb : b < (a 52).toNat) (ho : o < (a 53).toNat) : f_X10_tuneFor M (iI b) (iI o) = some (iI (tunR a b o), M) := by
  have R := vc.1
  have hM := vb.1.1
  unfold BM at hM
  have hS := vb.1.2.1
  have Bb := vb.1.2.2.2.1 b hb
  obtain ⟨b1, b2, b3, b4, b5, b6, b7, b8, b9⟩ := Bb
  have Bb := vb.1.2.2.2.1 b hb
  have Bo := vb.1.2.2.2.2.1 o ho
  have Bo' := Bo
  unfold BO at Bo'
  unfold f_X10_tuneFor optE tunR
  rw [bellAt_some R hb, bnd2_s]
  simp only
  rw [orderAt_some R ho, bnd2_s]
  simp only
  rw [R.b6 hb]
  by_cases c0 : a (60 + 8 * b) = 0
  · rw [if_pos (by rw [c0]; rfl), if_pos c0, c_isFitBy R hb ho Bb Bo, bnd2_s]
    by_cases c1 : fit a b o
    · rw [ify c1, if_pos c1]; rfl
    · rw [ifn c1, if_neg c1]
      unfold f_X9_fewestPoundsToFit
      rw [R.b2 hb, R.o0 ho]
      by_cases c2 : a (56 + 8 * b) = a (854 + 4 * o)
      · have q := l_fewest hk R hb ho Bb Bo hS (by omega) rfl 1000 FU (by omega) (by unfold FU; omega)
        rw [if_pos (by rw [c2]), if_pos c2, e_weight, bnd2_s, R.b0 hb, R.b1 hb, iI_add, Z1, iI_sub, Z1000, e_jmin (by omega) (by omega)]
        rw [show iI ((1001 : Int) - ((1000 : Nat) : Int)) = iI 1 from rfl] at q
        rw [q, bnd2_s]
      · rw [if_neg (by rw [iI_inj (by omega) (by omega)]; exact c2), if_neg c2]; rfl
  · rw [if_neg (by rw [Z0, iI_inj (by omega) (by omega)]; exact c0), if_neg c0]; rfl
theorem q_tuneFor_no (vc : VC M a n H L t) (vb : VB k a n H L t) {X Y : Int} (hX : B31 X) (hY : B31 Y) (hx : ¬ (0 ≤ X ∧ X ≤ a 52 - 1)) : f_X10_tuneFor M (iI X) (iI Y) = some (-1, M) := by
  have R := vc.1
  have hM' := vb.1.1
  unfold BM at hM'
  unfold f_X10_tuneFor optE
  rw [bellAt_none R (by omega) hX hx, bnd2_s]
  simp only
  by_cases hy : 0 ≤ Y ∧ Y ≤ a 53 - 1
  · obtain ⟨o, rfl⟩ : ∃ j : Nat, Y = j := ⟨Y.toNat, by omega⟩
    rw [orderAt_some R (by omega), bnd2_s]
  · rw [orderAt_none R (by omega) hY hy, bnd2_s]
theorem q_melt (vc : VC M a n H L t) (vb : VB k a n H L t) {X : Int} (hx : 0 ≤ X ∧ X ≤ 3) : f_X10_melt M (iI X) = some (iI (tel (a 6) (a 7) X), M) := by
  have R := vc.1
  have hM' := vb.1.1
  unfold BM at hM'
  unfold f_X10_melt
  rw [e_inL 0 3 (by omega) Z0 Z3 (by omega) (by omega), bnd2_s, ify hx, e_tell (c := a 6) (t := a 7) (R.lo (q := 6) (by omega)) (R.lo (q := 7) (by omega)) (by omega) (by omega) (by omega) hx.1 hx.2, bnd2_s]; rfl
theorem q_melt_no (M : MM) : f_X10_melt M (-1) = some (-1, M) := by
  unfold f_X10_melt
  rw [show f_X10_isIn M (-1) 0 3 = _ from e_inL (x := -1) 0 3 (by omega) Z0 Z3 (by omega) (by omega), bnd2_s, ifn (by omega), if_neg (by decide), if_neg (by decide)]
theorem q_melt4 (vc : VC M a n H L t) (vb : VB k a n H L t) : ∃ M1, f_X10_melt M 4 = some (iI (bC a + bT a), M1) ∧ VC M1 a n H L t := by
  have R := vc.1
  obtain ⟨M1, b1, b2, b3, b4⟩ := c_burntMelt R vb.1.1 vb.1.2.1
  refine ⟨M1, ?_, vc.step (CW.o65 R b2)⟩
  unfold f_X10_melt
  rw [show f_X10_isIn M 4 0 3 = _ from e_inL (x := 4) 0 3 (by omega) Z0 Z3 (by omega) (by omega), bnd2_s, ifn (by omega), if_pos rfl, b1, bnd2_s, e_weight, bnd2_s, b3, b4, iI_add]
end QRY
