section
/-! The call pour. -/
theorem po_52 {a : Nat → Int} {b : Nat} {y v : Int} (hb : 0 ≤ b) : mv (uI (uI (uI (mv a 6 4 (sh (a 6) (a 45)) (sh (a 7) (a 46))) 52 v) (54 + 8 * b) 0) (55 + 8 * b) 0) 6 (54 + 8 * b) (cin y (bC a) (bT a)) (y - cin y (bC a) (bT a)) = uI (poK a b y) 52 v := by
  obtain ⟨r0, hr0⟩ : ∃ r0, r0 = mv a 6 4 (sh (a 6) (a 45)) (sh (a 7) (a 46)) := ⟨_, rfl⟩
  have e6 : r0 6 = bC a := by rw [hr0, r0_6]; rfl
  have e7 : r0 7 = bT a := by rw [hr0, r0_7]; rfl
  have x6 : uI (uI (uI r0 52 v) (54 + 8 * b) 0) (55 + 8 * b) 0 6 = bC a := by rw [uI_n (by omega), uI_n (by omega), uI_n (by omega), e6]
  have x7 : uI (uI (uI r0 52 v) (54 + 8 * b) 0) (55 + 8 * b) 0 (6 + 1) = bT a := by rw [uI_n (by omega), uI_n (by omega), uI_n (by omega)]; exact e7
  have x0 : uI (uI (uI r0 52 v) (54 + 8 * b) 0) (55 + 8 * b) 0 (54 + 8 * b) = 0 := by rw [uI_n (by omega), uI_s]
  have x1 : uI (uI (uI r0 52 v) (54 + 8 * b) 0) (55 + 8 * b) 0 (54 + 8 * b + 1) = 0 := by rw [show 54 + 8 * b + 1 = 55 + 8 * b by omega, uI_s]
  unfold poK
  rw [← hr0, mv_eq (by omega), x6, x7, x0, x1, Int.zero_add, Int.zero_add, show 54 + 8 * b + 1 = 55 + 8 * b by omega, show 6 + 1 = 7 from rfl]
  funext q
  by_cases h0 : q = 54 + 8 * b
  · subst h0
    rw [uI_n (by omega), uI_n (by omega), uI_s, uI_n (by omega), uI_n (by omega), uI_n (by omega), uI_n (by omega), uI_s]
  by_cases h1 : q = 55 + 8 * b
  · subst h1
    rw [uI_s, uI_n (by omega), uI_n (by omega), uI_n (by omega), uI_s]
  by_cases h2 : q = 52
  · subst h2
    rw [uI_n (by omega), uI_n (by omega), uI_n (by omega), uI_n (by omega), uI_n (by omega), uI_n (by omega), uI_s, uI_s]
  by_cases h3 : q = 6
  · subst h3
    rw [uI_n (by omega), uI_n (by omega), uI_n (by omega), uI_s, uI_n (by omega), uI_n (by omega), uI_s]
  by_cases h4 : q = 7
  · subst h4
    rw [uI_n (by omega), uI_s, uI_n (by omega), uI_s]
  rw [uI_n h1, uI_n h4, uI_n h0, uI_n h3, uI_n h1, uI_n h0, uI_n h2, uI_n h2, uI_n h4, uI_n h3, uI_n h1, uI_n h0]
theorem dsc_52 {x : Nat → Int} {s v : Int} (h8 : 0 ≤ x 8 ∧ x 8 ≤ 12) : dsc (uI x 52 v) 6 s 0 = uI (dsc x 6 s 0) 52 v := by
  have e6 : uI x 52 v 6 = x 6 := uI_n (by omega)
  have e7 : uI x 52 v (6 + 1) = x (6 + 1) := uI_n (by omega)
  have e : drw (uI x 52 v) 6 s = uI (drw x 6 s) 52 v := by
    unfold drw
    rw [e6, e7, uI_comm (p := 52) (q := 6) (by omega), uI_comm (p := 52) (q := 6 + 1) (by omega)]
  unfold dsc
  rw [e, e6, e7, addA_comm (by rw [drw_n (by omega) (by omega)]; exact h8) (by omega)]
theorem poF_o {a : Nat → Int} {b : Nat} {pf y pi st v : Int} : uI (uI (uI (uI (uI (uI (uI (poD a b y) 52 v) (56 + 8 * b) pf) (57 + 8 * b) pi) (58 + 8 * b) y) (59 + 8 * b) 0) (60 + 8 * b) st) (61 + 8 * b) (-4) = uI (poE a b pf y pi st) 52 v := by
  unfold poE
  rw [uI_comm (p := 52) (q := 56 + 8 * b) (by omega), uI_comm (p := 52) (q := 57 + 8 * b) (by omega), uI_comm (p := 52) (q := 58 + 8 * b) (by omega), uI_comm (p := 52) (q := 59 + 8 * b) (by omega), uI_comm (p := 52) (q := 60 + 8 * b) (by omega), uI_comm (p := 52) (q := 61 + 8 * b) (by omega)]
end
