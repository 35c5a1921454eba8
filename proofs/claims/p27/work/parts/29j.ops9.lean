section
/-! The call scrap. -/
theorem c_melt6 {M : MM} {a : Nat → Int} (R : RA (M 0) (M 40) (M 50) a) {j : Nat} (hj : j < (a 8).toNat) : ∃ M1, f_X6_mixWith M 0 6 0 (9 + 3 * pm (M 50) j) = some ((), M1) ∧ CW M M1 (uI (uI a 6 (a 6 + a (9 + 3 * j))) 7 (a 7 + a (10 + 3 * j))) := by
  have hc := R.cb
  have h0 := R.l0 hj
  have h1 := R.l1 hj
  have hp := R.1.1 j (by omega)
  refine ⟨up2 (up2 M 0 6 (iI (a 6 + a (9 + 3 * j)))) 0 7 (iI (a 7 + a (10 + 3 * j))), ?_, ((CW.refl R).s _ (by omega)).s _ (by omega)⟩
  unfold f_X6_mixWith
  rw [letB_e, letB_e, h0, R.lo (by omega), iI_add, show 6 + 1 = 7 from rfl, up2_in 0 (show 7 ≠ 6 by omega), R.lo (by omega), up2_in 0 (show 9 + 3 * pm (M 50) j + 1 ≠ 6 by omega), h1, iI_add]
theorem c_meltDown {k : Int} (hk : k ≤ 1000) {M : MM} {a : Nat → Int} (R : RA (M 0) (M 40) (M 50) a) {j : Nat} (hj : j < (a 8).toNat) (hl : BL k a j) (hs : BS a) : ∃ M1, f_X9_meltDown M 0 (pm (M 50) j) = some ((), M1) ∧ CW M M1 (uI (uI (scA a j) 6 (a 6 + scA a j (9 + 3 * j))) 7 (a 7 + scA a j (10 + 3 * j))) := by
  have hc := R.cb
  have h0 := R.l0 hj
  have h1 := R.l1 hj
  have hp := R.1.1 j (by omega)
  have hl' := hl
  have hs' := hs
  unfold BL at hl'
  unfold BS at hs'
  have n6 : scA a j 6 = a 6 := scA_n (by omega)
  have n7 : scA a j 7 = a 7 := scA_n (by omega)
  have n8 : scA a j 8 = a 8 := scA_n (by omega)
  rw [← n6, ← n7]
  unfold f_X9_meltDown
  rw [R.l2 hj]
  by_cases c : a (11 + 3 * j) = 1
  · have m0 : a (9 + 3 * j) * a 45 ≤ a (9 + 3 * j) * 50 := Int.mul_le_mul_of_nonneg_left (by omega) (by omega)
    have m1 : a (10 + 3 * j) * a 46 ≤ a (10 + 3 * j) * 100 := Int.mul_le_mul_of_nonneg_left (by omega) (by omega)
    have eb := e_burn (M := M) (p := 9 + 3 * pm (M 50) j) (c := a (9 + 3 * j)) (t := a (10 + 3 * j)) (s0 := a 4) (s1 := a 5) (u := a 45) (v := a 46) (by omega) h0 h1 (R.lo (by omega)) (R.lo (by omega)) (R.se (j := 0) (by omega)) (R.se (j := 1) (by omega)) (by omega) (by omega) (by omega) (by omega) (by omega) (by omega)
    have w1 := (CW.refl R).lot (i := j) (f := 0) (p := 9 + 3 * pm (M 50) j) (a (9 + 3 * j) - sh (a (9 + 3 * j)) (a 45)) (by omega) (by omega) rfl
    have w2 := w1.s (q := 4) (a 4 + sh (a (9 + 3 * j)) (a 45)) (by omega)
    have w3 := w2.lot (i := j) (f := 1) (p := 9 + 3 * pm (M 50) j + 1) (a (10 + 3 * j) - sh (a (10 + 3 * j)) (a 46)) (by omega) (by omega) (by rw [up2_gn (by omega), up2_gn (by omega)])
    have w4 := w3.s (q := 5) (a 5 + sh (a (10 + 3 * j)) (a 46)) (by omega)
    have e : uI (uI (uI (uI a (9 + 3 * j + 0) (a (9 + 3 * j) - sh (a (9 + 3 * j)) (a 45))) 4 (a 4 + sh (a (9 + 3 * j)) (a 45))) (9 + 3 * j + 1) (a (10 + 3 * j) - sh (a (10 + 3 * j)) (a 46))) 5 (a 5 + sh (a (10 + 3 * j)) (a 46)) = scA a j := by
      unfold scA
      rw [if_pos c, mv_eq (by omega), Nat.add_zero, show 9 + 3 * j + 1 = 10 + 3 * j by omega]
    rw [e] at w4
    obtain ⟨M1, hM1⟩ : ∃ M1, M1 = up2 (up2 (up2 (up2 M 0 (9 + 3 * pm (M 50) j) (iI (a (9 + 3 * j) - sh (a (9 + 3 * j)) (a 45)))) 0 4 (iI (a 4 + sh (a (9 + 3 * j)) (a 45)))) 0 (9 + 3 * pm (M 50) j + 1) (iI (a (10 + 3 * j) - sh (a (10 + 3 * j)) (a 46)))) 0 5 (iI (a 5 + sh (a (10 + 3 * j)) (a 46))) := ⟨_, rfl⟩
    rw [← hM1] at w4 eb
    have e50 : M1 50 = M 50 := by rw [hM1, up2_gn (by omega), up2_gn (by omega), up2_gn (by omega), up2_gn (by omega)]
    obtain ⟨M2, k2, w5⟩ := c_melt6 w4.1 (j := j) (by rw [n8]; exact hj)
    rw [e50] at k2
    exact ⟨M2, by rw [if_pos (by rw [c]; rfl), eb, bnd2_s, k2, bnd2_s], w4.trans w5⟩
  · have e : scA a j = a := by unfold scA; rw [if_neg c]
    obtain ⟨M2, k2, w5⟩ := c_melt6 R hj
    rw [e]
    exact ⟨M2, by rw [if_neg (by rw [Z1, iI_inj (by omega) (by omega)]; exact c), k2, bnd2_s], w5⟩
def shf (b : Nat → Int) (z e : Nat) : Nat → Int := fun q => if z ≤ q ∧ q < e then b (q + 3) else b q
theorem shf_rmv {b : Nat → Int} {j n : Nat} : shf (uI b 8 (b 8 - 1)) (9 + 3 * j) (6 + 3 * n) = rmv b j n := by
  funext q
  unfold shf rmv
  by_cases h : q = 8
  · rw [if_neg (by omega), if_pos h, h, uI_s]
  · rw [if_neg (show ¬ q = 8 from h)]
    by_cases h2 : 9 + 3 * j ≤ q ∧ q < 6 + 3 * n
    · rw [if_pos h2, if_pos h2, uI_n (by omega)]
    · rw [if_neg h2, if_neg h2, uI_n h]
theorem scB_lo {a : Nat → Int} {j n q : Nat} (h : q < 9 ∨ 45 ≤ q) (hn : n ≤ 12) : scB a j n q = if q = 8 then a 8 - 1 else if q = 6 then a 6 + scA a j (9 + 3 * j) else if q = 7 then a 7 + scA a j (10 + 3 * j) else if 9 + 3 * j ≤ q ∧ q < 12 + 3 * j then scB a j n q else scA a j q := by
  by_cases c : q = 8
  · subst c
    rw [if_pos rfl]
    unfold scB rmv
    rw [if_pos rfl, mv_n (by omega) (by omega) (by omega) (by omega) (by omega), scA_n (by omega)]
  · have e : scB a j n q = mv (scA a j) (9 + 3 * j) 6 (scA a j (9 + 3 * j)) (scA a j (10 + 3 * j)) q := by
      unfold scB rmv
      rw [if_neg c, if_neg (by omega)]
    rw [if_neg c]
    by_cases c6 : q = 6
    · rw [if_pos c6, e, c6, mv_q (by omega), scA_n (by omega)]
    · rw [if_neg c6]
      by_cases c7 : q = 7
      · rw [if_pos c7, e, c7]
        have := mv_q1 (a := scA a j) (p := 9 + 3 * j) (q := 6) (c := scA a j (9 + 3 * j)) (t := scA a j (10 + 3 * j)) (by omega)
        rw [show 6 + 1 = 7 from rfl] at this
        rw [this, scA_n (by omega)]
      · rw [if_neg c7]
        by_cases c9 : 9 + 3 * j ≤ q ∧ q < 12 + 3 * j
        · rw [if_pos c9]
        · rw [if_neg c9, e, mv_n (by omega) (by omega) (by omega) (by omega) (by omega)]
theorem scB_w {a : Nat → Int} {j n : Nat} (hj : j < n) (hn : n ≤ 12) (h8 : a 8 = n) (q : Nat) (hq : q < 9 + 3 * (n - 1) ∨ 45 ≤ q) : scB a j n q = rmv (uI (uI (scA a j) 6 (a 6 + scA a j (9 + 3 * j))) 7 (a 7 + scA a j (10 + 3 * j))) j n q := by
  unfold scB rmv
  have key : ∀ q, q ≠ 9 + 3 * j → q ≠ 10 + 3 * j → mv (scA a j) (9 + 3 * j) 6 (scA a j (9 + 3 * j)) (scA a j (10 + 3 * j)) q = uI (uI (scA a j) 6 (a 6 + scA a j (9 + 3 * j))) 7 (a 7 + scA a j (10 + 3 * j)) q := by
    intro q h1 h2
    have n6 : scA a j 6 = a 6 := scA_n (by omega)
    have n7 : scA a j 7 = a 7 := scA_n (by omega)
    rw [mv_eq (by omega), show 6 + 1 = 7 from rfl, n6, n7]
    by_cases c7 : q = 7
    · rw [c7, uI_s, uI_s]
    · rw [uI_n c7, uI_n (by omega), uI_n c7]
      by_cases c6 : q = 6
      · rw [c6, uI_s, uI_s]
      · rw [uI_n c6, uI_n h1, uI_n c6]
  by_cases c : q = 8
  · rw [if_pos c, if_pos c, key 8 (by omega) (by omega)]
  · rw [if_neg c, if_neg c]
    by_cases d : 9 + 3 * j ≤ q ∧ q < 6 + 3 * n
    · rw [if_pos d, if_pos d, key _ (by omega) (by omega)]
    · rw [if_neg d, if_neg d, key _ (by omega) (by omega)]
end
