section
/-! The call scrap. -/
theorem Bd_scB {k : Int} {a : Nat → Int} {j n : Nat} (h : Bd k a) (hj : j < n) (h8 : a 8 = n) (hw : a 6 + a 7 + (a (9 + 3 * j) + a (10 + 3 * j)) ≤ 20000) : Bd (k + 1) (scB a j n) := by
  have hM := h.1
  have hS := h.2.1
  have hL := h.2.2.1
  unfold BM at hM
  have hb := scA_b (hL j (by omega)) hS
  have hlo : ∀ q, q < 9 ∨ 45 ≤ q → q ≠ 4 → q ≠ 5 → q ≠ 6 → q ≠ 7 → q ≠ 8 → scB a j n q = a q := by
    intro q h1 h2 h3 h4 h5 h6
    rw [scB_lo h1 (by omega), if_neg h6, if_neg h4, if_neg h5, if_neg (by omega), scA_n (by omega)]
  refine h.lots (by omega) ?_ (fun i hi => ?_) (fun q hq => hlo q (by omega) (by omega) (by omega) (by omega) (by omega) (by omega))
  · unfold BM
    rw [hlo 0 (by omega) (by omega) (by omega) (by omega) (by omega) (by omega), hlo 1 (by omega) (by omega) (by omega) (by omega) (by omega) (by omega), hlo 52 (by omega) (by omega) (by omega) (by omega) (by omega) (by omega), hlo 53 (by omega) (by omega) (by omega) (by omega) (by omega) (by omega), scB_lo (q := 6) (by omega) (by omega), scB_lo (q := 7) (by omega) (by omega), scB_lo (q := 8) (by omega) (by omega)]
    simp only [if_pos, if_neg (show ¬ (6 : Nat) = 8 by omega), if_neg (show ¬ (7 : Nat) = 8 by omega), if_neg (show ¬ (7 : Nat) = 6 by omega)]
    omega
  · have sh : ∀ i, i ≠ j → i < 12 → BL (k + 1) (mv (scA a j) (9 + 3 * j) 6 (scA a j (9 + 3 * j)) (scA a j (10 + 3 * j))) i := by
      intro i h1 h2
      have hi2 := (hL i h2)
      have hi3 : BL (k + 1) a i := by unfold BL at hi2 ⊢; omega
      exact hi3.congr (fun q q1 q2 => by rw [mv_n (by omega) (by omega) (by omega) (by omega) (by omega), scA_n (by omega)])
    by_cases c : j ≤ i ∧ i + 1 < n
    · have h2 := sh (i + 1) (by omega) (by omega)
      unfold BL at h2 ⊢
      have e : ∀ q, 9 + 3 * i ≤ q → q < 12 + 3 * i → scB a j n q = mv (scA a j) (9 + 3 * j) 6 (scA a j (9 + 3 * j)) (scA a j (10 + 3 * j)) (q + 3) := fun q q1 q2 => by
        unfold scB rmv
        rw [if_neg (by omega), if_pos (by omega)]
      rw [e (9 + 3 * i) (by omega) (by omega), e (10 + 3 * i) (by omega) (by omega), e (11 + 3 * i) (by omega) (by omega), show 9 + 3 * i + 3 = 9 + 3 * (i + 1) by omega, show 10 + 3 * i + 3 = 10 + 3 * (i + 1) by omega, show 11 + 3 * i + 3 = 11 + 3 * (i + 1) by omega]
      exact h2
    · have e : ∀ q, 9 + 3 * i ≤ q → q < 12 + 3 * i → scB a j n q = mv (scA a j) (9 + 3 * j) 6 (scA a j (9 + 3 * j)) (scA a j (10 + 3 * j)) q := fun q q1 q2 => by
        unfold scB rmv
        rw [if_neg (by omega), if_neg (by omega)]
      by_cases d : i = j
      · subst d
        have hl := hL i (by omega)
        have z0 := mv_p (a := scA a i) (p := 9 + 3 * i) (q := 6) (c := scA a i (9 + 3 * i)) (t := scA a i (10 + 3 * i)) (by omega)
        have z1 := mv_p1 (a := scA a i) (p := 9 + 3 * i) (q := 6) (c := scA a i (9 + 3 * i)) (t := scA a i (10 + 3 * i)) (by omega)
        rw [show 9 + 3 * i + 1 = 10 + 3 * i by omega] at z1
        unfold BL at hl ⊢
        rw [e (9 + 3 * i) (by omega) (by omega), e (10 + 3 * i) (by omega) (by omega), e (11 + 3 * i) (by omega) (by omega), z0, z1, mv_n (x := 11 + 3 * i) (by omega) (by omega) (by omega) (by omega) (by omega), scA_n (q := 11 + 3 * i) (by omega)]
        omega
      · exact (sh i d hi).congr e
end
