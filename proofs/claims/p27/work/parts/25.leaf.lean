/-! Leaves in closed form. -/
def dI (P : Prop) [Decidable P] : Int32 := if P then 1 else 0
theorem dI_t {P : Prop} [Decidable P] (h : P) : dI P = 1 := if_pos h
theorem dI_f {P : Prop} [Decidable P] (h : ¬ P) : dI P = 0 := if_neg h
theorem iF_a (a : Nat → Int) (q : Nat) : iF a q = iI (a q) := rfl
theorem iI_lo {n : Nat} (h : n < 2147483648) : (iI (n : Int)).toNatClampNeg = n := by rw [iI_nat (by omega)]; omega
theorem vinI {n m : Nat} (h : n < m) (hm : m < 2147483648) : vin (iI (n : Int)) m := (iI_vin (by omega) hm).mpr (by omega)
theorem e_isIn {M : MM} {x a b : Int} (hx : B31 x) (ha : B31 a) (hb : B31 b) : f_X10_isIn M (iI x) (iI a) (iI b) = some (dI (a ≤ x ∧ x ≤ b), M) := by
  unfold f_X10_isIn
  by_cases h1 : x < a
  · rw [if_pos ((iI_lt hx ha).mpr h1), dI_f (by omega)]
  · rw [if_neg (fun q => h1 ((iI_lt hx ha).mp q))]
    by_cases h2 : b < x
    · rw [if_pos ((iI_lt hb hx).mpr h2), dI_f (by omega)]
    · rw [if_neg (fun q => h2 ((iI_lt hb hx).mp q)), dI_t (by omega)]
theorem e_isMetal {M : MM} {x : Int} (hx : B31 x) : f_X10_isMetal M (iI x) = some (dI (0 ≤ x ∧ x ≤ 1), M) := by
  unfold f_X10_isMetal
  rw [Z0, Z1, e_isIn hx (by omega) (by omega)]; rfl
theorem e_isProfile {M : MM} {x : Int} (hx : B31 x) : f_X10_isProfile M (iI x) = some (dI (0 ≤ x ∧ x ≤ 3), M) := by
  unfold f_X10_isProfile
  rw [Z0, show (4 : Int32) - 1 = iI 3 from rfl, e_isIn hx (by omega) (by omega)]; rfl
theorem ifn {P : Prop} [Decidable P] {α : Sort _} {x y : α} (h : ¬ P) : (if dI P = 0 then x else y) = x := if_pos (dI_f h)
theorem ify {P : Prop} [Decidable P] {α : Sort _} {x y : α} (h : P) : (if dI P = 0 then x else y) = y := if_neg (by rw [dI_t h]; decide)
def sh (p s : Int) : Int := (p * s + 999) / 1000
def alo (c t : Int) : Int := if c + t = 0 then 0 else 1000 * t / (c + t)
def cin (n c t : Int) : Int := if n = 0 then 0 else n * c / (c + t)
theorem sh_nn {p s : Int} (h : 0 ≤ p) (hs : 0 ≤ s) : 0 ≤ sh p s := by
  have := Int.mul_nonneg h hs
  unfold sh
  omega
theorem sh_le {p s : Int} (h : 0 ≤ p) (hs : 0 ≤ s) (hs2 : s ≤ 1000) : sh p s ≤ p := by
  have h1 : p * s ≤ p * 1000 := Int.mul_le_mul_of_nonneg_left hs2 h
  unfold sh
  omega
theorem sh_lem {p s S : Int} (h : 0 ≤ p) (hs2 : s ≤ S) : sh p s ≤ (p * S + 999) / 1000 := by
  have h1 : p * s ≤ p * S := Int.mul_le_mul_of_nonneg_left hs2 h
  unfold sh
  omega
theorem alo_nn {c t : Int} (hc : 0 ≤ c) (ht : 0 ≤ t) : 0 ≤ alo c t := by
  unfold alo
  split
  · omega
  · exact Int.ediv_nonneg (by omega) (by omega)
theorem alo_le {c t : Int} (hc : 0 ≤ c) (ht : 0 ≤ t) : alo c t ≤ 1000 := by
  unfold alo
  split
  · omega
  · exact Int.ediv_le_of_le_mul (by omega) (by omega)
theorem cin_nn {n c t : Int} (hn : 0 ≤ n) (hc : 0 ≤ c) (ht : 0 ≤ t) : 0 ≤ cin n c t := by
  unfold cin
  split
  · omega
  · exact Int.ediv_nonneg (Int.mul_nonneg hn hc) (by omega)
theorem cin_le {n c t : Int} (hn : 0 ≤ n) (hc : 0 ≤ c) (ht : 0 ≤ t) (hw : n ≤ c + t) : cin n c t ≤ n := by
  unfold cin
  split
  · omega
  · exact Int.ediv_le_of_le_mul (by omega) (Int.mul_le_mul_of_nonneg_left (by omega) hn)
theorem cin_lec {n c t : Int} (hn : 0 ≤ n) (hc : 0 ≤ c) (ht : 0 ≤ t) (hw : n ≤ c + t) : cin n c t ≤ c := by
  unfold cin
  split
  · omega
  · refine Int.ediv_le_of_le_mul (by omega) ?_
    rw [Int.mul_comm]
    exact Int.mul_le_mul_of_nonneg_left hw hc
theorem cin_let {n c t : Int} (hn : 0 ≤ n) (hc : 0 ≤ c) (ht : 0 ≤ t) (hw : n ≤ c + t) : n - cin n c t ≤ t := by
  unfold cin
  split
  · omega
  · have h1 : n * c / (c + t) * (c + t) > n * c - (c + t) := by
      have h2 := Int.mul_ediv_add_emod (n * c) (c + t)
      have h3 := Int.emod_lt_of_pos (n * c) (show 0 < c + t by omega)
      rw [Int.mul_comm]
      omega
    have h4 : (n - t) ≤ n * c / (c + t) := by
      refine Int.le_ediv_of_mul_le (by omega) ?_
      have h5 : (n - t) * (c + t) = n * c - t * (c + t - n) := by
        rw [Int.sub_mul, Int.mul_add, Int.mul_sub, Int.mul_comm t n]; omega
      have h6 : 0 ≤ t * (c + t - n) := Int.mul_nonneg ht (by omega)
      omega
    omega
theorem cin_all {c t : Int} (hc : 0 ≤ c) (ht : 0 ≤ t) (h : 0 < c + t) : cin (c + t) c t = c := by
  unfold cin
  rw [if_neg (by omega), Int.mul_ediv_cancel_left _ (by omega)]
theorem e_share {M : MM} {p s : Int} (h : 0 ≤ p) (hs : 0 ≤ s) (hb : p * s < 2147480000) : f_X10_shareRoundedUp M (iI p) (iI s) = some (iI (sh p s), M) := by
  have := Int.mul_nonneg h hs
  unfold f_X10_shareRoundedUp sh
  rw [Z999, Z1000, iI_mul, iI_add, iI_div (by omega) (by omega) (by omega) (by omega)]
theorem e_of0 (M : MM) (G i : Nat) : f_X6_of M G i 0 = some (M G i, M) := by unfold f_X6_of; rw [if_pos rfl]
theorem e_of1 (M : MM) (G i : Nat) : f_X6_of M G i 1 = some (M G (i + 1), M) := by unfold f_X6_of; rw [if_neg (by decide)]
theorem e_put0 (M : MM) (G i : Nat) (y : Int32) : f_X6_put M G i 0 y = some ((), up2 M G i (M G i + y)) := by unfold f_X6_put; rw [if_pos rfl]; rfl
theorem e_put1 (M : MM) (G i : Nat) (y : Int32) : f_X6_put M G i 1 y = some ((), up2 M G (i + 1) (M G (i + 1) + y)) := by unfold f_X6_put; rw [if_neg (by decide)]; rfl
theorem e_weight (M : MM) (G i : Nat) : f_X6_weight M G i = some (M G i + M G (i + 1), M) := rfl
theorem e_alloyOf {M : MM} {t w : Int} (ht : 0 ≤ t) (hw : t ≤ w) (hB : w < 2147483648) : f_X6_alloyOf M (iI t) (iI w) = some (iI (alo (w - t) t), M) := by
  unfold f_X6_alloyOf alo
  rw [show w - t + t = w by omega]
  by_cases h : w = 0
  · rw [if_neg (by rw [Z1, iI_le (by omega) (by omega)]; omega), if_pos h]; rfl
  · have h1 : 1000 * t / w ≤ 1000 := Int.ediv_le_of_le_mul (by omega) (by omega)
    have h2 : 0 ≤ 1000 * t / w := Int.ediv_nonneg (by omega) (by omega)
    rw [if_pos (by rw [Z1, iI_le (by omega) (by omega)]; omega), iI_l (by omega), iI_l (by omega), if_neg (by rw [show (0 : Int64) = lI 0 from rfl, lI_inj (by omega) (by omega)]; exact h), ZL1000, lI_mul, lI_div (by omega) (by omega) (by omega) (by omega), lI_i (by omega), if_neg h]
theorem e_copperOfDraw {M : MM} {G i : Nat} {n c t : Int} (h1 : M G i = iI c) (h2 : M G (i + 1) = iI t) (hn : 0 ≤ n) (hc : 0 ≤ c) (ht : 0 ≤ t) (hB : c + t < 2147483648) (hw : n ≤ c + t) (hm : n * c < 2147483648) : f_X6_copperOfDraw M G i (iI n) = some (iI (cin n c t), M) := by
  have hz := Int.mul_nonneg hn hc
  unfold f_X6_copperOfDraw cin
  rw [e_weight, bnd2_s, h1, h2, iI_add]
  by_cases h : c + t = 0
  · rw [if_neg (by rw [Z1, iI_le (by omega) (by omega)]; omega), if_pos (by omega)]; rfl
  · rw [if_pos (by rw [Z1, iI_le (by omega) (by omega)]; omega), if_neg (by rw [Z0, iI_inj (by omega) (by omega)]; exact h), iI_mul, iI_div (by omega) hm (by omega) (by omega)]
    by_cases hn0 : n = 0
    · rw [if_pos hn0, hn0, Int.zero_mul, Int.zero_ediv]
    · rw [if_neg hn0]
theorem e_tell {M : MM} {G i : Nat} {c t : Int} {x : Int} (h1 : M G i = iI c) (h2 : M G (i + 1) = iI t) (hc : 0 ≤ c) (ht : 0 ≤ t) (hB : c + t < 2147483648) (hx : 0 ≤ x) (hx3 : x ≤ 3) : f_X6_tell M G i (iI x) = some (iI (if x = 0 then c else if x = 1 then t else if x = 2 then c + t else alo c t), M) := by
  unfold f_X6_tell
  have h3 : x = 0 ∨ x = 1 ∨ x = 2 ∨ x = 3 := by omega
  rcases h3 with rfl | rfl | rfl | rfl
  · rw [if_pos (show iI 0 = 0 from rfl), if_pos rfl, h1]
  · rw [if_neg (by decide), if_pos (show iI 1 = 1 from rfl), h2]; rfl
  · rw [if_neg (by decide), if_neg (by decide), if_pos (show iI 2 = 2 from rfl), e_weight, bnd2_s, h1, h2, iI_add]; rfl
  · rw [if_neg (by decide), if_neg (by decide), if_neg (by decide)]
    unfold f_X6_alloy
    rw [e_weight, bnd2_s, h1, h2, iI_add, e_alloyOf ht (by omega) hB, show c + t - t = c by omega]; rfl

