/-! The questions as the law asks them: with written numbers. -/
section QLT
variable {k : Int} {M : MM} {a : Nat → Int} {n : Nat} {H : Nat → Nat → Int} {L : Nat} {t : Nat → Int}
theorem qc0 (vc : VC M a n H L t) (vb : VB k a n H L t) : f_X10_count M 0 = some (iI (a 8), M) := q_count vc vb (X := 0) (by omega)
theorem qc1 (vc : VC M a n H L t) (vb : VB k a n H L t) : f_X10_count M 1 = some (iI (a 52), M) := q_count vc vb (X := 1) (by omega)
theorem qc2 (vc : VC M a n H L t) (vb : VB k a n H L t) : f_X10_count M 2 = some (iI (hereN a), M) := q_count vc vb (X := 2) (by omega)
theorem qc3 (vc : VC M a n H L t) (vb : VB k a n H L t) : f_X10_count M 3 = some (iI (cn (stP a 1) (a 52).toNat), M) := q_count vc vb (X := 3) (by omega)
theorem qc4 (vc : VC M a n H L t) (vb : VB k a n H L t) : f_X10_count M 4 = some (iI (cn (stP a 2) (a 52).toNat), M) := q_count vc vb (X := 4) (by omega)
theorem qc5 (vc : VC M a n H L t) (vb : VB k a n H L t) : f_X10_count M 5 = some (iI (a 53), M) := q_count vc vb (X := 5) (by omega)
theorem qc6 (vc : VC M a n H L t) (vb : VB k a n H L t) : f_X10_count M 6 = some (iI (openN a), M) := q_count vc vb (X := 6) (by omega)
theorem qc7 (vc : VC M a n H L t) (vb : VB k a n H L t) : f_X10_count M 7 = some (iI (cn (orP a 1) (a 53).toNat), M) := q_count vc vb (X := 7) (by omega)
theorem qc8 (vc : VC M a n H L t) (vb : VB k a n H L t) : f_X10_count M 8 = some (iI (n), M) := q_count vc vb (X := 8) (by omega)
theorem qc9 (vc : VC M a n H L t) (vb : VB k a n H L t) : f_X10_count M 9 = some (iI (L), M) := q_count vc vb (X := 9) (by omega)
theorem qc24 (vc : VC M a n H L t) (vb : VB k a n H L t) : f_X10_count M 24 = some (iI (a 49), M) := q_count vc vb (X := 24) (by omega)
theorem qc26 (vc : VC M a n H L t) (vb : VB k a n H L t) : f_X10_count M 26 = some (iI (a 51), M) := q_count vc vb (X := 26) (by omega)
theorem qc19 (vc : VC M a n H L t) (vb : VB k a n H L t) : f_X10_count M 19 = some (-1, M) := q_count vc vb (X := 19) (by omega)
theorem qa0 (vc : VC M a n H L t) (vb : VB k a n H L t) {m : Nat} (hm : m ≤ 1) : f_X10_account M (iI m) 0 = some (iI (a (2 + m)), M) := q_account vc vb hm (Y := 0) (by omega)
theorem qa1 (vc : VC M a n H L t) (vb : VB k a n H L t) {m : Nat} (hm : m ≤ 1) : f_X10_account M (iI m) 1 = some (iI (a m), M) := q_account vc vb hm (Y := 1) (by omega)
theorem qa2 (vc : VC M a n H L t) (vb : VB k a n H L t) {m : Nat} (hm : m ≤ 1) : f_X10_account M (iI m) 2 = some (iI (a (6 + m)), M) := q_account vc vb hm (Y := 2) (by omega)
theorem qa3 (vc : VC M a n H L t) (vb : VB k a n H L t) {m : Nat} (hm : m ≤ 1) : f_X10_account M (iI m) 3 = some (iI (lotS a m), M) := q_account vc vb hm (Y := 3) (by omega)
theorem qa4 (vc : VC M a n H L t) (vb : VB k a n H L t) {m : Nat} (hm : m ≤ 1) : f_X10_account M (iI m) 4 = some (iI (belS a m), M) := q_account vc vb hm (Y := 4) (by omega)
theorem qa5 (vc : VC M a n H L t) (vb : VB k a n H L t) {m : Nat} (hm : m ≤ 1) : f_X10_account M (iI m) 5 = some (iI (sntS a m), M) := q_account vc vb hm (Y := 5) (by omega)
theorem qa6 (vc : VC M a n H L t) (vb : VB k a n H L t) {m : Nat} (hm : m ≤ 1) : f_X10_account M (iI m) 6 = some (iI (a (4 + m)), M) := q_account vc vb hm (Y := 6) (by omega)
theorem ql0 (hk : k ≤ 1000) (vc : VC M a n H L t) (vb : VB k a n H L t) {j : Nat} (hj : j < (a 8).toNat) : f_X10_lot M (iI j) 0 = some (iI (a (9 + 3 * j)), M) := q_lot hk vc vb hj (Y := 0) (by omega)
theorem ql1 (hk : k ≤ 1000) (vc : VC M a n H L t) (vb : VB k a n H L t) {j : Nat} (hj : j < (a 8).toNat) : f_X10_lot M (iI j) 1 = some (iI (a (10 + 3 * j)), M) := q_lot hk vc vb hj (Y := 1) (by omega)
theorem ql2 (hk : k ≤ 1000) (vc : VC M a n H L t) (vb : VB k a n H L t) {j : Nat} (hj : j < (a 8).toNat) : f_X10_lot M (iI j) 2 = some (iI (a (9 + 3 * j) + a (10 + 3 * j)), M) := q_lot hk vc vb hj (Y := 2) (by omega)
theorem ql4 (hk : k ≤ 1000) (vc : VC M a n H L t) (vb : VB k a n H L t) {j : Nat} (hj : j < (a 8).toNat) : f_X10_lot M (iI j) 4 = some (iI (a (11 + 3 * j)), M) := q_lot hk vc vb hj (Y := 4) (by omega)
theorem qlm (hk : k ≤ 1000) (vc : VC M a n H L t) (vb : VB k a n H L t) {j m : Nat} (hj : j < (a 8).toNat) (hm : m ≤ 1) : f_X10_lot M (iI j) (iI m) = some (iI (a (9 + 3 * j + m)), M) := by
  have h : m = 0 ∨ m = 1 := by omega
  rcases h with rfl | rfl
  · exact ql0 hk vc vb hj
  · rw [show 9 + 3 * j + 1 = 10 + 3 * j by omega]; exact ql1 hk vc vb hj
theorem qb4 (vc : VC M a n H L t) (vb : VB k a n H L t) {j : Nat} (hj : j < (a 52).toNat) : f_X10_bell M (iI j) 4 = some (iI (a (56 + 8 * j)), M) := q_bell vc vb hj (Y := 4) (by omega)
theorem qb5 (vc : VC M a n H L t) (vb : VB k a n H L t) {j : Nat} (hj : j < (a 52).toNat) : f_X10_bell M (iI j) 5 = some (iI (a (57 + 8 * j)), M) := q_bell vc vb hj (Y := 5) (by omega)
theorem qb6 (vc : VC M a n H L t) (vb : VB k a n H L t) {j : Nat} (hj : j < (a 52).toNat) : f_X10_bell M (iI j) 6 = some (iI (a (58 + 8 * j)), M) := q_bell vc vb hj (Y := 6) (by omega)
theorem qb7 (vc : VC M a n H L t) (vb : VB k a n H L t) {j : Nat} (hj : j < (a 52).toNat) : f_X10_bell M (iI j) 7 = some (iI (a (59 + 8 * j)), M) := q_bell vc vb hj (Y := 7) (by omega)
theorem qb8 (vc : VC M a n H L t) (vb : VB k a n H L t) {j : Nat} (hj : j < (a 52).toNat) : f_X10_bell M (iI j) 8 = some (iI (a (60 + 8 * j)), M) := q_bell vc vb hj (Y := 8) (by omega)
theorem qb9 (vc : VC M a n H L t) (vb : VB k a n H L t) {j : Nat} (hj : j < (a 52).toNat) : f_X10_bell M (iI j) 9 = some (iI (a (61 + 8 * j)), M) := q_bell vc vb hj (Y := 9) (by omega)
theorem qb0 (vc : VC M a n H L t) (vb : VB k a n H L t) {j : Nat} (hj : j < (a 52).toNat) (h3 : a (60 + 8 * j) ≠ 3) : f_X10_bell M (iI j) 0 = some (iI (a (54 + 8 * j)), M) := by
  have h := q_bell vc vb hj (Y := 0) (by omega)
  unfold belR at h
  rw [if_pos (by omega), if_neg h3] at h
  exact h
theorem qb0x (vc : VC M a n H L t) (vb : VB k a n H L t) {j : Nat} (hj : j < (a 52).toNat) (h3 : a (60 + 8 * j) = 3) : f_X10_bell M (iI j) 0 = some (iI (-4), M) := by
  have h := q_bell vc vb hj (Y := 0) (by omega)
  unfold belR at h
  rw [if_pos (by omega), if_pos h3] at h
  exact h
theorem qb1 (vc : VC M a n H L t) (vb : VB k a n H L t) {j : Nat} (hj : j < (a 52).toNat) (h3 : a (60 + 8 * j) ≠ 3) : f_X10_bell M (iI j) 1 = some (iI (a (55 + 8 * j)), M) := by
  have h := q_bell vc vb hj (Y := 1) (by omega)
  unfold belR at h
  rw [if_pos (by omega), if_neg h3] at h
  exact h
theorem qb1x (vc : VC M a n H L t) (vb : VB k a n H L t) {j : Nat} (hj : j < (a 52).toNat) (h3 : a (60 + 8 * j) = 3) : f_X10_bell M (iI j) 1 = some (iI (-4), M) := by
  have h := q_bell vc vb hj (Y := 1) (by omega)
  unfold belR at h
  rw [if_pos (by omega), if_pos h3] at h
  exact h
theorem qb2 (vc : VC M a n H L t) (vb : VB k a n H L t) {j : Nat} (hj : j < (a 52).toNat) (h3 : a (60 + 8 * j) ≠ 3) : f_X10_bell M (iI j) 2 = some (iI (a (54 + 8 * j) + a (55 + 8 * j)), M) := by
  have h := q_bell vc vb hj (Y := 2) (by omega)
  unfold belR at h
  rw [if_pos (by omega), if_neg h3] at h
  exact h
theorem qb2x (vc : VC M a n H L t) (vb : VB k a n H L t) {j : Nat} (hj : j < (a 52).toNat) (h3 : a (60 + 8 * j) = 3) : f_X10_bell M (iI j) 2 = some (iI (-4), M) := by
  have h := q_bell vc vb hj (Y := 2) (by omega)
  unfold belR at h
  rw [if_pos (by omega), if_pos h3] at h
  exact h
theorem qb3 (vc : VC M a n H L t) (vb : VB k a n H L t) {j : Nat} (hj : j < (a 52).toNat) (h3 : a (60 + 8 * j) ≠ 3) : f_X10_bell M (iI j) 3 = some (iI (alo (a (54 + 8 * j)) (a (55 + 8 * j))), M) := by
  have h := q_bell vc vb hj (Y := 3) (by omega)
  unfold belR at h
  rw [if_pos (by omega), if_neg h3] at h
  exact h
theorem qb3x (vc : VC M a n H L t) (vb : VB k a n H L t) {j : Nat} (hj : j < (a 52).toNat) (h3 : a (60 + 8 * j) = 3) : f_X10_bell M (iI j) 3 = some (iI (-4), M) := by
  have h := q_bell vc vb hj (Y := 3) (by omega)
  unfold belR at h
  rw [if_pos (by omega), if_pos h3] at h
  exact h
theorem qbm (vc : VC M a n H L t) (vb : VB k a n H L t) {j m : Nat} (hj : j < (a 52).toNat) (hm : m ≤ 1) (h3 : a (60 + 8 * j) ≠ 3) : f_X10_bell M (iI j) (iI m) = some (iI (a (54 + 8 * j + m)), M) := by
  have h : m = 0 ∨ m = 1 := by omega
  rcases h with rfl | rfl
  · exact qb0 vc vb hj h3
  · rw [show 54 + 8 * j + 1 = 55 + 8 * j by omega]; exact qb1 vc vb hj h3
theorem qo0 (vc : VC M a n H L t) (vb : VB k a n H L t) {o : Nat} (ho : o < (a 53).toNat) : f_X10_orderOf M (iI o) 0 = some (iI (a (854 + 4 * o)), M) := q_orderOf vc vb ho (Y := 0) (by omega)
theorem qo1 (vc : VC M a n H L t) (vb : VB k a n H L t) {o : Nat} (ho : o < (a 53).toNat) : f_X10_orderOf M (iI o) 1 = some (iI (a (855 + 4 * o)), M) := q_orderOf vc vb ho (Y := 1) (by omega)
theorem qo2 (vc : VC M a n H L t) (vb : VB k a n H L t) {o : Nat} (ho : o < (a 53).toNat) : f_X10_orderOf M (iI o) 2 = some (iI (a (856 + 4 * o)), M) := q_orderOf vc vb ho (Y := 2) (by omega)
theorem qo3 (vc : VC M a n H L t) (vb : VB k a n H L t) {o : Nat} (ho : o < (a 53).toNat) : f_X10_orderOf M (iI o) 3 = some (iI (a (857 + 4 * o)), M) := q_orderOf vc vb ho (Y := 3) (by omega)
theorem qo4 (vc : VC M a n H L t) (vb : VB k a n H L t) {o : Nat} (ho : o < (a 53).toNat) : f_X10_orderOf M (iI o) 4 = some (iI (lst (fP a o) (a 52).toNat (a 52).toNat), M) := q_orderOf vc vb ho (Y := 4) (by omega)
theorem qo5 (vc : VC M a n H L t) (vb : VB k a n H L t) {o : Nat} (ho : o < (a 53).toNat) : f_X10_orderOf M (iI o) 5 = some (iI (cn (fP a o) (a 52).toNat), M) := q_orderOf vc vb ho (Y := 5) (by omega)
theorem qm0 (vc : VC M a n H L t) (vb : VB k a n H L t) : f_X10_melt M 0 = some (iI (a 6), M) := q_melt vc vb (X := 0) (by omega)
theorem qm1 (vc : VC M a n H L t) (vb : VB k a n H L t) : f_X10_melt M 1 = some (iI (a 7), M) := q_melt vc vb (X := 1) (by omega)
theorem qm2 (vc : VC M a n H L t) (vb : VB k a n H L t) : f_X10_melt M 2 = some (iI (a 6 + a 7), M) := q_melt vc vb (X := 2) (by omega)
theorem qmm (vc : VC M a n H L t) (vb : VB k a n H L t) {m : Nat} (hm : m ≤ 1) : f_X10_melt M (iI m) = some (iI (a (6 + m)), M) := by
  have h : m = 0 ∨ m = 1 := by omega
  rcases h with rfl | rfl
  · exact qm0 vc vb
  · exact qm1 vc vb
end QLT
