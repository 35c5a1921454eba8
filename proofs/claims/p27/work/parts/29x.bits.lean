section
/-! Bits. -/
theorem iI_nI (n : Nat) : iI (n : Int) = nI n := (nI_i n).symm
abbrev tb (z k : Nat) : Prop := z / 2 ^ k % 2 = 1
abbrev bt (x : Int32) (v : Nat) : Prop := ((x >>> (iI (v : Int) &&& 31)) &&& 1 : Int32) = (1 : Int32)
theorem nat_and_pow (n v : Nat) : n &&& 2 ^ v = if n / 2 ^ v % 2 = 1 then 2 ^ v else 0 := by
  apply Nat.eq_of_testBit_eq
  intro j
  rw [Nat.testBit_and, Nat.testBit_two_pow]
  by_cases h : v = j
  · subst h
    by_cases c : n / 2 ^ v % 2 = 1
    · rw [if_pos c, Nat.testBit_two_pow]; simp [Nat.testBit_eq_decide_div_mod_eq, c]
    · rw [if_neg c]; simp [Nat.testBit_eq_decide_div_mod_eq, c]
  · by_cases c : n / 2 ^ v % 2 = 1
    · rw [if_pos c, Nat.testBit_two_pow]; simp [h]
    · rw [if_neg c]; simp [h]
theorem p2_le {a b : Nat} (h : a ≤ b) : 2 ^ a ≤ 2 ^ b := Nat.pow_le_pow_right (by omega) h
theorem p2_31 {v : Nat} (h : v < 31) : 2 ^ v < 2147483648 := by
  have := p2_le (show v ≤ 30 by omega)
  have e : (2 : Nat) ^ 30 = 1073741824 := rfl
  omega
theorem sm_k : ∀ k : Nat, k < 32 → ((iI (k : Int) &&& 31 : Int32).toBitVec.smod 32).toNat = k := by decide
theorem shr_x (x : Int32) {k : Nat} (hk : k < 32) : (x >>> (iI (k : Int) &&& 31)).toInt = x.toInt >>> k := pk_shr x _ k (sm_k k hk)
theorem shr_n {n k : Nat} (hn : n < 2 ^ 31) (hk : k < 32) : iI (n : Int) >>> (iI (k : Int) &&& 31) = iI ((n / 2 ^ k : Nat) : Int) := by
  rw [iI_nI, iI_nI]
  exact pk_shrN hn _ k (sm_k k hk)
theorem and_1 {n : Nat} (hn : n < 2 ^ 31) : iI (n : Int) &&& 1 = iI ((n % 2 : Nat) : Int) := by
  rw [iI_nI, iI_nI]
  exact pk_andN (by omega) 1 (by decide)
theorem bt_tb {n k : Nat} (hn : n < 2 ^ 31) (hk : k < 32) : bt (iI (n : Int)) k ↔ tb n k := by
  unfold bt tb
  have h : n / 2 ^ k ≤ n := Nat.div_le_self _ _
  rw [shr_n hn hk, and_1 (by omega), Z1, iI_inj (by omega) (by omega)]
  omega
theorem shl_1 : ∀ k : Nat, k < 31 → (1 : Int32) <<< (iI (k : Int) &&& 31) = iI ((2 ^ k : Nat) : Int) := by decide
theorem shl_2 : ∀ k : Nat, k < 30 → (iI ((2 ^ k : Nat) : Int) : Int32) <<< (1 &&& 31 : Int32) = iI ((2 ^ (k + 1) : Nat) : Int) := by decide
theorem and_p {n k : Nat} (hn : n < 2 ^ 31) (hk : k < 31) : iI (n : Int) &&& iI ((2 ^ k : Nat) : Int) = iI ((if n / 2 ^ k % 2 = 1 then 2 ^ k else 0 : Nat) : Int) := by
  have hp := p2_31 hk
  rw [iI_nI, iI_nI, iI_nI]
  apply Int32.toBitVec_inj.mp
  apply BitVec.eq_of_toNat_eq
  rw [Int32.toBitVec_and, BitVec.toNat_and, pk_tn (by omega), pk_tn (by omega), pk_tn (by split <;> omega), nat_and_pow]
theorem and_p0 {n k : Nat} (hn : n < 2 ^ 31) (hk : k < 31) : (iI (n : Int) &&& iI ((2 ^ k : Nat) : Int) : Int32) = 0 ↔ ¬ tb n k := by
  have hp := p2_31 hk
  have h0 : 0 < 2 ^ k := Nat.two_pow_pos k
  rw [and_p hn hk, Z0]
  unfold tb
  by_cases c : n / 2 ^ k % 2 = 1
  · rw [if_pos c, iI_inj (by omega) (by omega)]
    exact ⟨fun q => by omega, fun q => absurd c q⟩
  · rw [if_neg c]
    exact ⟨fun _ => c, fun _ => rfl⟩
theorem bv_not (x m : BitVec 32) : x &&& (m ^^^ BitVec.allOnes 32) = x - (x &&& m) := by
  rw [BitVec.xor_allOnes]
  have h : (x &&& ~~~m) &&& (x &&& m) = 0#32 := by
    ext i hi
    simp
    intro _ h2 _
    exact h2
  have h1 := BitVec.add_eq_or_of_and_eq_zero _ _ h
  have h2 : (x &&& ~~~m) ||| (x &&& m) = x := by
    ext i hi
    simp
    cases x[i] <;> cases m[i] <;> rfl
  rw [h2] at h1
  exact (BitVec.eq_sub_iff_add_eq).mpr h1
theorem and_not (x m : Int32) : x &&& (m ^^^ (-1)) = x - (x &&& m) := by
  apply Int32.toBitVec_inj.mp
  rw [Int32.toBitVec_and, Int32.toBitVec_xor, Int32.toBitVec_sub, Int32.toBitVec_and]
  exact bv_not _ _
theorem clr {n k : Nat} (hn : n < 2 ^ 31) (hk : k < 31) (h : tb n k) : iI (n : Int) &&& (((1 : Int32) <<< (iI (k : Int) &&& 31)) ^^^ (-1)) = iI ((n - 2 ^ k : Nat) : Int) := by
  have hle : 2 ^ k ≤ n := by
    unfold tb at h
    by_cases c : n < 2 ^ k
    · rw [Nat.div_eq_of_lt c] at h; omega
    · omega
  rw [shl_1 k hk, and_not, and_p hn hk, if_pos (show n / 2 ^ k % 2 = 1 from h), iI_sub]
  congr 1
  omega
theorem tb_le {n k : Nat} (h : tb n k) : 2 ^ k ≤ n := by
  unfold tb at h
  by_cases c : n < 2 ^ k
  · rw [Nat.div_eq_of_lt c] at h; omega
  · omega
theorem low_0 {z k : Nat} (h : z % 2 ^ k = 0) (hb : ¬ tb z k) : z % 2 ^ (k + 1) = 0 := by
  unfold tb at hb
  have e := Nat.div_add_mod z (2 ^ k)
  rw [h] at e
  have e2 := Nat.div_add_mod (z / 2 ^ k) 2
  have h2 : z / 2 ^ k % 2 = 0 := by omega
  rw [h2] at e2
  have e3 : z = 2 ^ (k + 1) * (z / 2 ^ k / 2) := by
    rw [Nat.pow_succ, Nat.mul_assoc]
    have : 2 * (z / 2 ^ k / 2) = z / 2 ^ k := by omega
    rw [this]; omega
  rw [e3]
  exact Nat.mul_mod_right _ _
theorem low_1 {z k : Nat} (h : z % 2 ^ k = 0) (hb : tb z k) : (z - 2 ^ k) % 2 ^ (k + 1) = 0 := by
  unfold tb at hb
  have e := Nat.div_add_mod z (2 ^ k)
  rw [h] at e
  have e2 := Nat.div_add_mod (z / 2 ^ k) 2
  rw [hb] at e2
  have e3 : z - 2 ^ k = 2 ^ (k + 1) * (z / 2 ^ k / 2) := by
    rw [Nat.pow_succ, Nat.mul_assoc]
    have h4 : z / 2 ^ k = 2 * (z / 2 ^ k / 2) + 1 := by omega
    have h5 : z = 2 ^ k * (2 * (z / 2 ^ k / 2) + 1) := by rw [← h4]; omega
    rw [Nat.mul_add, Nat.mul_one] at h5
    omega
  rw [e3]
  exact Nat.mul_mod_right _ _
end
