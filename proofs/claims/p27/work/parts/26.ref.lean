/-! The reference's small methods over its row. -/
/-- moves -/
def mv (a : Nat → Int) (p q : Nat) (c t : Int) : Nat → Int := uI (uI (uI (uI a p (a p - c)) (p + 1) (a (p + 1) - t)) q (uI (uI a p (a p - c)) (p + 1) (a (p + 1) - t) q + c)) (q + 1) (uI (uI a p (a p - c)) (p + 1) (a (p + 1) - t) (q + 1) + t)
/-- where pounds that come lie -/
def com (a : Nat → Int) (kd : Int) : Nat → Int := if a 8 = 12 then a else uI (uI (uI (uI a 8 (a 8 + 1)) (9 + 3 * (a 8).toNat) 0) (10 + 3 * (a 8).toNat) 0) (11 + 3 * (a 8).toNat) kd
def cAt (a : Nat → Int) : Nat := if a 8 = 12 then 42 else 9 + 3 * (a 8).toNat
theorem com_n {a : Nat → Int} {kd : Int} {q : Nat} (h : 0 ≤ a 8 ∧ a 8 ≤ 12) (hq : q < 8 ∨ 45 ≤ q) : com a kd q = a q := by
  unfold com
  split
  · rfl
  · rw [uI_n (by omega), uI_n (by omega), uI_n (by omega), uI_n (by omega)]
def scr (a : Nat → Int) (p : Nat) (n kd : Int) : Nat → Int := if n ≤ 0 then a else mv (com a kd) p (cAt a) (cin n (a p) (a (p + 1))) (n - cin n (a p) (a (p + 1)))
def low (pi tu n w : Int) : Int := if pi - tu * 1000 * n / w < 1 then 1 else pi - tu * 1000 * n / w
abbrev crk (dr n pf po : Int) : Prop := (dr + n) * (if pf = 2 then 20 else 10) > po
abbrev fit (a : Nat → Int) (b o : Nat) : Prop := a (60 + 8 * b) = 0 ∧ a (56 + 8 * b) = a (854 + 4 * o) ∧ (-(a (856 + 4 * o)) ≤ a (57 + 8 * b) - a (855 + 4 * o) ∧ a (57 + 8 * b) - a (855 + 4 * o) ≤ a (856 + 4 * o))
