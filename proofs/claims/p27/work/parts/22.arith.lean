/-! Ints as Int32 and Int64. -/
def iI (n : Int) : Int32 := Int32.ofInt n
def lI (n : Int) : Int64 := Int64.ofInt n
abbrev B31 (n : Int) : Prop := -2147483648 ≤ n ∧ n < 2147483648
abbrev B63 (n : Int) : Prop := -9223372036854775808 ≤ n ∧ n < 9223372036854775808
theorem iI_toInt {n : Int} (h : B31 n) : (iI n).toInt = n := Int32.toInt_ofInt_of_le h.1 h.2
theorem lI_toInt {n : Int} (h : B63 n) : (lI n).toInt = n := Int64.toInt_ofInt_of_le h.1 h.2
theorem iI_of (x : Int32) : x = iI x.toInt := (Int32.ofInt_toInt x).symm
theorem iI_B (x : Int32) : B31 x.toInt := ⟨Int32.le_toInt x, Int32.toInt_lt x⟩
theorem iI_add (a b : Int) : iI a + iI b = iI (a + b) := (Int32.ofInt_add a b).symm
theorem iI_sub (a b : Int) : iI a - iI b = iI (a - b) := (Int32.ofInt_sub a b).symm
theorem iI_mul (a b : Int) : iI a * iI b = iI (a * b) := (Int32.ofInt_mul a b).symm
theorem iI_neg (a : Int) : -iI a = iI (-a) := (Int32.ofInt_neg a).symm
theorem lI_add (a b : Int) : lI a + lI b = lI (a + b) := (Int64.ofInt_add a b).symm
theorem lI_sub (a b : Int) : lI a - lI b = lI (a - b) := (Int64.ofInt_sub a b).symm
theorem lI_mul (a b : Int) : lI a * lI b = lI (a * b) := (Int64.ofInt_mul a b).symm
theorem iI_inj {a b : Int} (ha : B31 a) (hb : B31 b) : iI a = iI b ↔ a = b := by
  rw [← Int32.toInt_inj, iI_toInt ha, iI_toInt hb]
theorem iI_le {a b : Int} (ha : B31 a) (hb : B31 b) : iI a ≤ iI b ↔ a ≤ b := by
  rw [Int32.le_iff_toInt_le, iI_toInt ha, iI_toInt hb]
theorem iI_lt {a b : Int} (ha : B31 a) (hb : B31 b) : iI a < iI b ↔ a < b := by
  rw [Int32.lt_iff_toInt_lt, iI_toInt ha, iI_toInt hb]
theorem lI_inj {a b : Int} (ha : B63 a) (hb : B63 b) : lI a = lI b ↔ a = b := by
  rw [← Int64.toInt_inj, lI_toInt ha, lI_toInt hb]
theorem lI_le {a b : Int} (ha : B63 a) (hb : B63 b) : lI a ≤ lI b ↔ a ≤ b := by
  rw [Int64.le_iff_toInt_le, lI_toInt ha, lI_toInt hb]
theorem lI_lt {a b : Int} (ha : B63 a) (hb : B63 b) : lI a < lI b ↔ a < b := by
  rw [Int64.lt_iff_toInt_lt, lI_toInt ha, lI_toInt hb]
theorem iI_div {a b : Int} (ha : 0 ≤ a) (ha2 : a < 2147483648) (hb : 0 < b) (hb2 : b < 2147483648) : iI a / iI b = iI (a / b) := by
  have h0 : a / b ≤ a := Int.ediv_le_self b ha
  have h1 : 0 ≤ a / b := Int.ediv_nonneg ha (by omega)
  apply Int32.toInt_inj.mp
  rw [Int32.toInt_div_of_ne_left, iI_toInt ⟨by omega, ha2⟩, iI_toInt ⟨by omega, hb2⟩, iI_toInt ⟨by omega, by omega⟩, Int.tdiv_eq_ediv_of_nonneg ha]
  intro h
  have h2 := congrArg Int32.toInt h
  rw [iI_toInt ⟨by omega, ha2⟩] at h2
  have h3 : Int32.minValue.toInt = -2147483648 := by decide
  omega
theorem lI_div {a b : Int} (ha : 0 ≤ a) (ha2 : a < 9223372036854775808) (hb : 0 < b) (hb2 : b < 9223372036854775808) : lI a / lI b = lI (a / b) := by
  have h0 : a / b ≤ a := Int.ediv_le_self b ha
  have h1 : 0 ≤ a / b := Int.ediv_nonneg ha (by omega)
  apply Int64.toInt_inj.mp
  rw [Int64.toInt_div_of_ne_left, lI_toInt ⟨by omega, ha2⟩, lI_toInt ⟨by omega, hb2⟩, lI_toInt ⟨by omega, by omega⟩, Int.tdiv_eq_ediv_of_nonneg ha]
  intro h
  have h2 := congrArg Int64.toInt h
  rw [lI_toInt ⟨by omega, ha2⟩] at h2
  have h3 : Int64.minValue.toInt = -9223372036854775808 := by decide
  omega
theorem iI_l {a : Int} (h : B31 a) : Int32.toInt64 (iI a) = lI a := by
  apply Int64.toInt_inj.mp
  rw [Int32.toInt_toInt64, iI_toInt h, lI_toInt ⟨by omega, by omega⟩]
theorem lI_i {a : Int} (h : B31 a) : Int64.toInt32 (lI a) = iI a := by
  apply Int32.toInt_inj.mp
  rw [Int64.toInt_toInt32, lI_toInt ⟨by omega, by omega⟩, iI_toInt h]
  exact Int.bmod_eq_of_le (by omega) (by omega)
theorem iI_nat {a : Int} (h : B31 a) : (iI a).toNatClampNeg = a.toNat := by
  show (iI a).toInt.toNat = _
  rw [iI_toInt h]
theorem iI_vin {a : Int} {n : Nat} (h : B31 a) (hn : n < 2147483648) : vin (iI a) n ↔ 0 ≤ a ∧ a < n := by
  unfold vin
  rw [iI_nat h, show (0 : Int32) = iI 0 from rfl, iI_lt h (by omega)]
  omega
theorem nI_i (n : Nat) : nI n = iI n := Int32.ofInt_eq_ofNat.symm
theorem iI_N {a : Int} (h : 0 ≤ a) : iI a = nI a.toNat := by rw [nI_i, Int.toNat_of_nonneg h]
theorem Z0 : (0 : Int32) = iI 0 := rfl
theorem Z1 : (1 : Int32) = iI 1 := rfl
theorem Z2 : (2 : Int32) = iI 2 := rfl
theorem Z3 : (3 : Int32) = iI 3 := rfl
theorem Z4 : (4 : Int32) = iI 4 := rfl
theorem Z5 : (5 : Int32) = iI 5 := rfl
theorem Z6 : (6 : Int32) = iI 6 := rfl
theorem Z7 : (7 : Int32) = iI 7 := rfl
theorem Z8 : (8 : Int32) = iI 8 := rfl
theorem Z9 : (9 : Int32) = iI 9 := rfl
theorem Z10 : (10 : Int32) = iI 10 := rfl
theorem Z12 : (12 : Int32) = iI 12 := rfl
theorem Z13 : (13 : Int32) = iI 13 := rfl
theorem Z20 : (20 : Int32) = iI 20 := rfl
theorem Z26 : (26 : Int32) = iI 26 := rfl
theorem Z30 : (30 : Int32) = iI 30 := rfl
theorem Z32 : (32 : Int32) = iI 32 := rfl
theorem Z40 : (40 : Int32) = iI 40 := rfl
theorem Z41 : (41 : Int32) = iI 41 := rfl
theorem Z42 : (42 : Int32) = iI 42 := rfl
theorem Z44 : (44 : Int32) = iI 44 := rfl
theorem Z45 : (45 : Int32) = iI 45 := rfl
theorem Z48 : (48 : Int32) = iI 48 := rfl
theorem Z52 : (52 : Int32) = iI 52 := rfl
theorem Z53 : (53 : Int32) = iI 53 := rfl
theorem Z54 : (54 : Int32) = iI 54 := rfl
theorem Z57 : (57 : Int32) = iI 57 := rfl
theorem Z60 : (60 : Int32) = iI 60 := rfl
theorem Z100 : (100 : Int32) = iI 100 := rfl
theorem Z126 : (126 : Int32) = iI 126 := rfl
theorem Z250 : (250 : Int32) = iI 250 := rfl
theorem Z300 : (300 : Int32) = iI 300 := rfl
theorem Z500 : (500 : Int32) = iI 500 := rfl
theorem Z750 : (750 : Int32) = iI 750 := rfl
theorem Z854 : (854 : Int32) = iI 854 := rfl
theorem Z900 : (900 : Int32) = iI 900 := rfl
theorem Z999 : (999 : Int32) = iI 999 := rfl
theorem Z1000 : (1000 : Int32) = iI 1000 := rfl
theorem Z1100 : (1100 : Int32) = iI 1100 := rfl
theorem Z1200 : (1200 : Int32) = iI 1200 := rfl
theorem Z1254 : (1254 : Int32) = iI 1254 := rfl
theorem Z1500 : (1500 : Int32) = iI 1500 := rfl
theorem Z2048 : (2048 : Int32) = iI 2048 := rfl
theorem Z3762 : (3762 : Int32) = iI 3762 := rfl
theorem Z5016 : (5016 : Int32) = iI 5016 := rfl
theorem Z10000 : (10000 : Int32) = iI 10000 := rfl
theorem Z20000 : (20000 : Int32) = iI 20000 := rfl
theorem Z32768 : (32768 : Int32) = iI 32768 := rfl
theorem Z100000 : (100000 : Int32) = iI 100000 := rfl
theorem Z1000000 : (1000000 : Int32) = iI 1000000 := rfl
theorem Zm1 : (-1 : Int32) = iI (-1) := rfl
theorem Zm2 : (-2 : Int32) = iI (-2) := rfl
theorem Zm3 : (-3 : Int32) = iI (-3) := rfl
theorem Zm4 : (-4 : Int32) = iI (-4) := rfl
theorem ZL1 : (1 : Int64) = lI 1 := rfl
theorem ZL1000 : (1000 : Int64) = lI 1000 := rfl
theorem ZL10000 : (10000 : Int64) = lI 10000 := rfl
theorem ZL1000000 : (1000000 : Int64) = lI 1000000 := rfl

