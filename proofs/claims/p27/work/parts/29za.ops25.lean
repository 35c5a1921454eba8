section
/-! The pure packing: bounds. -/
def INV (W : Nat → Int) (l : Int) (n m : Nat) : Prop := ∀ q, q ≤ m → q < 2 ^ n → 0 ≤ Btb W l n m q ∧ Btb W l n m q % 32768 ≤ l ∧ ∀ k, k ≤ n → q % 2 ^ k = 0 → Btb W l n m q / 32768 ≤ (n : Int) - k
theorem tb_low {z j k : Nat} (h : z % 2 ^ k = 0) (hb : tb z j) : k ≤ j := by
  by_cases c : k ≤ j
  · exact c
  · unfold tb at hb
    have e := Nat.div_add_mod z (2 ^ k)
    rw [h] at e
    obtain ⟨c, hc⟩ : ∃ c, c = z / 2 ^ k := ⟨_, rfl⟩
    rw [← hc] at e
    have e2 : 2 ^ k = 2 ^ j * (2 * 2 ^ (k - j - 1)) := by
      rw [← Nat.mul_assoc, ← Nat.pow_succ, ← Nat.pow_add]; congr 1; omega
    have e3 : z = 2 ^ j * (2 * (2 ^ (k - j - 1) * c)) := by
      rw [e2, Nat.add_zero] at e
      rw [← Nat.mul_assoc 2, ← Nat.mul_assoc (2 ^ j)]
      exact e.symm
    rw [e3, Nat.mul_div_cancel_left _ (Nat.two_pow_pos j), Nat.mul_mod_right] at hb
    omega
theorem pck_b {o w l : Int} (h0 : 0 ≤ o) (hl : o % 32768 ≤ l) (hw : 0 ≤ w) (hw2 : w ≤ l) (hl2 : l ≤ 20000) : 0 ≤ pck o w l ∧ pck o w l % 32768 = (if o % 32768 + w ≤ l then o % 32768 + w else w) ∧ pck o w l / 32768 = (if o % 32768 + w ≤ l then o / 32768 else o / 32768 + 1) := by
  unfold pck
  split <;> omega
def BST (W : Nat → Int) (l : Int) (n m k : Nat) : Int := bst (Btb W l n m) W l n (m + 1) k
theorem BST_s (W : Nat → Int) (l : Int) (n m k : Nat) : BST W l n m (k + 1) = if tb (m + 1) k then (if pck (Btb W l n m (m + 1 - 2 ^ k)) (W k) l < BST W l n m k then pck (Btb W l n m (m + 1 - 2 ^ k)) (W k) l else BST W l n m k) else BST W l n m k := rfl
theorem bst_inv {W : Nat → Int} {l : Int} {n m : Nat} (hn : n ≤ 12) (hl : 0 ≤ l) (hl2 : l ≤ 20000) (hW : ∀ i, i < n → 0 ≤ W i ∧ W i ≤ l) (hI : INV W l n m) (hz : m + 1 < 2 ^ n) : ∀ k, k ≤ n → ((m + 1) % 2 ^ k = 0 ∧ BST W l n m k = 32768 * (n + 1)) ∨ (∃ j, j < k ∧ tb (m + 1) j ∧ (m + 1) % 2 ^ j = 0 ∧ 0 ≤ BST W l n m k ∧ BST W l n m k % 32768 ≤ l ∧ BST W l n m k / 32768 ≤ (n : Int) - j) := by
  intro k
  induction k with
  | zero => intro _; exact Or.inl ⟨Nat.mod_one _, rfl⟩
  | succ k ih =>
    intro hk
    have hW1 := hW k (by omega)
    rw [BST_s]
    by_cases c : tb (m + 1) k
    · rw [if_pos c]
      have hle := tb_le c
      have hp := Nat.two_pow_pos k
      obtain ⟨i1, i2, i3⟩ := hI (m + 1 - 2 ^ k) (by omega) (by omega)
      obtain ⟨p1, p2, p3⟩ := pck_b i1 i2 hW1.1 hW1.2 hl2
      have p2' : pck (Btb W l n m (m + 1 - 2 ^ k)) (W k) l % 32768 ≤ l := by rw [p2]; split <;> omega
      rcases ih (by omega) with ⟨a1, a2⟩ | ⟨j, a1, a2, a3, a4, a5, a6⟩
      · have i4 := i3 (k + 1) hk (low_1 a1 c)
        have p3' : pck (Btb W l n m (m + 1 - 2 ^ k)) (W k) l / 32768 ≤ (n : Int) - k := by rw [p3]; split <;> omega
        rw [a2, if_pos (by omega)]
        exact Or.inr ⟨k, by omega, c, a1, p1, p2', p3'⟩
      · refine Or.inr ⟨j, by omega, a2, a3, ?_⟩
        split
        · exact ⟨p1, p2', by omega⟩
        · exact ⟨a4, a5, a6⟩
    · rw [if_neg c]
      rcases ih (by omega) with ⟨a1, a2⟩ | ⟨j, a1, a2⟩
      · exact Or.inl ⟨low_0 a1 c, a2⟩
      · exact Or.inr ⟨j, by omega, a2⟩
theorem INV_0 {W : Nat → Int} {l : Int} {n : Nat} (hl : 0 ≤ l) (hl2 : l ≤ 20000) : INV W l n 0 := by
  intro q hq _
  obtain rfl : q = 0 := by omega
  have e : Btb W l n 0 0 = l := by unfold Btb; rw [uI_s]
  rw [e]
  exact ⟨hl, by omega, fun k hk _ => by omega⟩
theorem Btb_s (W : Nat → Int) (l : Int) (n m : Nat) : Btb W l n (m + 1) (m + 1) = BST W l n m n := by
  unfold BST
  rw [Btb, uI_s]
theorem Btb_o {W : Nat → Int} {l : Int} {n m q : Nat} (h : q ≤ m) : Btb W l n (m + 1) q = Btb W l n m q := by
  rw [Btb, uI_n (by omega)]
theorem INV_s {W : Nat → Int} {l : Int} {n m : Nat} (hn : n ≤ 12) (hl : 0 ≤ l) (hl2 : l ≤ 20000) (hW : ∀ i, i < n → 0 ≤ W i ∧ W i ≤ l) (hI : INV W l n m) (hz : m + 1 < 2 ^ n) : INV W l n (m + 1) := by
  intro q hq hq2
  by_cases e : q = m + 1
  · subst e
    rw [Btb_s]
    rcases bst_inv hn hl hl2 hW hI hz n (Nat.le_refl n) with ⟨a1, a2⟩ | ⟨j, a1, a2, a3, a4, a5, a6⟩
    · rw [Nat.mod_eq_of_lt hz] at a1; omega
    · refine ⟨a4, a5, fun k hk h => ?_⟩
      have := tb_low h a2
      omega
  · rw [Btb_o (by omega)]
    exact hI q (by omega) hq2
theorem INV_all {W : Nat → Int} {l : Int} {n : Nat} (hn : n ≤ 12) (hl : 0 ≤ l) (hl2 : l ≤ 20000) (hW : ∀ i, i < n → 0 ≤ W i ∧ W i ≤ l) : ∀ m, m < 2 ^ n → INV W l n m := by
  intro m
  induction m with
  | zero => intro _; exact INV_0 hl hl2
  | succ m ih => intro h; exact INV_s hn hl hl2 hW (ih (by omega)) h
theorem bst_b {W : Nat → Int} {l : Int} {n m k : Nat} (hn : n ≤ 12) (hl : 0 ≤ l) (hl2 : l ≤ 20000) (hW : ∀ i, i < n → 0 ≤ W i ∧ W i ≤ l) (hI : INV W l n m) (hz : m + 1 < 2 ^ n) (hk : k ≤ n) : 0 ≤ BST W l n m k ∧ BST W l n m k ≤ 425984 := by
  rcases bst_inv hn hl hl2 hW hI hz k hk with ⟨a1, a2⟩ | ⟨j, a1, a2, a3, a4, a5, a6⟩
  · rw [a2]; omega
  · omega
/-! The class's packing. -/
theorem l_13 {M : MM} {W : Nat → Int} {l : Int} {n m : Nat} (hn : n ≤ 12) (hl : 0 ≤ l) (hl2 : l ≤ 20000) (hW : ∀ i, i < n → 0 ≤ W i ∧ W i ≤ l) (hI : INV W l n m) (hz : m + 1 < 2 ^ n) (h7 : M 7 0 = iI n) (h8 : ∀ i, i < n → M 8 i = iI (W i)) (h9 : ∀ q, q ≤ m → M 9 q = iI (Btb W l n m q)) : ∀ (j fu k : Nat), k + j = n → j < fu → lp_X8_bestFor_13 fu M (iI ((m + 1 : Nat) : Int)) (iI l) (iI (BST W l n m k)) (iI k) = some (iI (BST W l n m n), M) := by
  have hp12 := p2_le hn
  have e12 : (2 : Nat) ^ 12 = 4096 := rfl
  intro j
  induction j with
  | zero =>
    intro fu k hk hf
    obtain ⟨f, rfl⟩ : ∃ f, fu = f + 1 := ⟨fu - 1, by omega⟩
    obtain rfl : k = n := by omega
    unfold lp_X8_bestFor_13
    rw [if_pos (by rw [h7, iI_le (by omega) (by omega)]; omega)]
  | succ j ih =>
    intro fu k hk hf
    obtain ⟨f, rfl⟩ : ∃ f, fu = f + 1 := ⟨fu - 1, by omega⟩
    have e1 : iI (k : Int) + 1 = iI ((k + 1 : Nat) : Int) := by rw [Z1, iI_add]; congr 1
    have ih' := ih f (k + 1) (by omega) (by omega)
    have hW1 := hW k (by omega)
    have hA := bst_b hn hl hl2 hW hI hz (show k ≤ n by omega)
    rw [BST_s] at ih'
    unfold lp_X8_bestFor_13
    rw [if_neg (by rw [h7, iI_le (by omega) (by omega)]; omega), shl_1 k (by omega)]
    by_cases c : tb (m + 1) k
    · have hle := tb_le c
      have hp := Nat.two_pow_pos k
      obtain ⟨i1, i2, i3⟩ := hI (m + 1 - 2 ^ k) (by omega) (by omega)
      have i4 := i3 0 (by omega) (Nat.mod_one _)
      obtain ⟨p1, p2, p3⟩ := pck_b i1 i2 hW1.1 hW1.2 hl2
      rw [if_pos c] at ih'
      obtain ⟨o, ho⟩ : ∃ o, o = Btb W l n m (m + 1 - 2 ^ k) := ⟨_, rfl⟩
      rw [← ho] at i1 i2 i4 p1 p2 p3 ih'
      have es : iI ((m + 1 : Nat) : Int) - iI ((2 ^ k : Nat) : Int) = iI ((m + 1 - 2 ^ k : Nat) : Int) := by rw [iI_sub]; congr 1; omega
      have vs : vin (iI ((m + 1 - 2 ^ k : Nat) : Int)) 4096 := vinI (by omega) (by omega)
      have ts : (iI ((m + 1 - 2 ^ k : Nat) : Int)).toNatClampNeg = m + 1 - 2 ^ k := iI_lo (by omega)
      have vk : vin (iI (k : Int)) 12 := vinI (by omega) (by omega)
      have tk : (iI (k : Int)).toNatClampNeg = k := iI_lo (by omega)
      have em : iI o - iI o / 32768 * 32768 = iI (o % 32768) := by
        rw [Z32768, iI_div (by omega) (by omega) (by omega) (by omega), iI_mul, iI_sub]; congr 1; omega
      rw [if_neg (fun q => (and_p0 (by omega) (by omega)).mp q c), es, if_pos vs]
      simp only [ts, h9 _ (show m + 1 - 2 ^ k ≤ m by omega), ← ho, em, letJ_e, if_pos vk, tk, h8 k (show k < n by omega), iI_add, e1]
      by_cases d : o % 32768 + W k ≤ l
      · rw [if_neg (by rw [iI_lt (by omega) (by omega)]; omega)]
        have ep : pck o (W k) l = o + W k := by unfold pck; rw [if_pos d]
        rw [ep] at p1 p2 p3 ih'
        rw [e_jmin (by omega) (by omega)]
        exact ih'
      · rw [if_pos (by rw [iI_lt (by omega) (by omega)]; omega)]
        have ep : pck o (W k) l = o - o % 32768 + 32768 + W k := by unfold pck; rw [if_neg d]
        rw [ep] at p1 p2 p3 ih'
        rw [iI_sub, Z32768, iI_add, iI_add, e_jmin (by omega) (by omega)]
        exact ih'
    · rw [if_neg c] at ih'
      rw [if_pos ((and_p0 (by omega) (by omega)).mpr c), e1]
      exact ih'
end
