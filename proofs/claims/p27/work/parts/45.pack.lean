/-! THE LAW'S METHODS: areLoads: how few wagons there can be. -/
theorem tb_test {q i : Nat} : tb q i ↔ q.testBit i = true := by
  unfold tb
  rw [Nat.testBit_eq_decide_div_mod_eq, decide_eq_true_eq]
theorem tb_cl {q k : Nat} (h : tb q k) : ¬ tb (q - 2 ^ k) k ∧ ∀ i, i ≠ k → (tb (q - 2 ^ k) i ↔ tb q i) := by
  have hp := Nat.two_pow_pos k
  have hd := Nat.div_add_mod q (2 ^ k)
  have hlt := Nat.mod_lt q hp
  obtain ⟨B, hB⟩ : ∃ B, B = q % 2 ^ k := ⟨_, rfl⟩
  obtain ⟨c, hc⟩ : ∃ c, c = q / 2 ^ k := ⟨_, rfl⟩
  unfold tb at h
  rw [← hc] at h
  rw [← hB, ← hc] at hd
  rw [← hB] at hlt
  obtain ⟨A, hA⟩ : ∃ A, c = 2 * A + 1 := ⟨c / 2, by omega⟩
  have e1 : q = 2 ^ k * (2 * A + 1) + B := by rw [← hA]; exact hd.symm
  have e2 : q - 2 ^ k = 2 ^ k * (2 * A) + B := by
    rw [Nat.mul_add, Nat.mul_one] at e1
    omega
  have t1 : ∀ i, q.testBit i = if i < k then B.testBit i else (2 * A + 1).testBit (i - k) := fun i => by
    rw [e1]; exact Nat.testBit_two_pow_mul_add _ hlt i
  have t2 : ∀ i, (q - 2 ^ k).testBit i = if i < k then B.testBit i else (2 * A).testBit (i - k) := fun i => by
    rw [e2]; exact Nat.testBit_two_pow_mul_add _ hlt i
  constructor
  · rw [tb_test, t2, if_neg (Nat.lt_irrefl k), Nat.sub_self, Nat.testBit_zero, decide_eq_true_eq]
    omega
  · intro i hi
    rw [tb_test, tb_test, t1, t2]
    by_cases c : i < k
    · rw [if_pos c, if_pos c]
    · rw [if_neg c, if_neg c, show i - k = (i - k - 1) + 1 by omega, Nat.testBit_add_one, Nat.testBit_add_one, show (2 * A + 1) / 2 = A by omega, show 2 * A / 2 = A by omega]
/-- the weight of a set -/
def bwt (W : Nat → Int) (n q : Nat) : Int := sm (fun i => if tb q i then W i else 0) n
theorem bwt_cl {W : Nat → Int} {n q k : Nat} (hk : k < n) (h : tb q k) : bwt W n q = bwt W n (q - 2 ^ k) + W k := by
  obtain ⟨h1, h2⟩ := tb_cl h
  unfold bwt
  rw [sm_up (f := fun i => if tb (q - 2 ^ k) i then W i else 0) (g := fun i => if tb q i then W i else 0) (p := k) n hk (fun i _ hp => by
    by_cases c : tb q i
    · rw [if_pos c, if_pos ((h2 i hp).mpr c)]
    · rw [if_neg c, if_neg (fun q => c ((h2 i hp).mp q))])]
  simp only [if_pos h, if_neg h1]
  omega
theorem bwt_0 {W : Nat → Int} : ∀ n : Nat, bwt W n 0 = 0 := by
  intro n
  induction n with
  | zero => rfl
  | succ n ih =>
    unfold bwt at ih ⊢
    rw [sm_s, ih, if_neg (by unfold tb; rw [Nat.zero_div]; omega)]
    rfl
theorem bwt_le {W : Nat → Int} {l : Int} {q : Nat} (hl : 0 ≤ l) : ∀ n : Nat, (∀ i, i < n → W i ≤ l) → bwt W n q ≤ l * n := by
  intro n
  induction n with
  | zero => intro _; show (0 : Int) ≤ _; rw [Int.natCast_zero, Int.mul_zero]; exact Int.le_refl _
  | succ n ih =>
    intro h
    have h1 := ih (fun i hi => h i (by omega))
    have h2 := h n (by omega)
    unfold bwt at h1 ⊢
    rw [sm_s]
    have e : l * ((n + 1 : Nat) : Int) = l * (n : Int) + l := by rw [Int.natCast_add, Int.mul_add]; show l * n + l * 1 = _; rw [Int.mul_one]
    rw [e]
    split <;> omega
theorem bwt_all {W : Nat → Int} {m : Nat} : ∀ n : Nat, n ≤ m → bwt W n (2 ^ m - 1) = sm W n := by
  intro n
  induction n with
  | zero => intro _; rfl
  | succ n ih =>
    intro h
    have h1 := ih (by omega)
    unfold bwt at h1 ⊢
    rw [sm_s, sm_s, h1, if_pos (by rw [tb_test, Nat.testBit_two_pow_sub_one]; simp; omega)]
/-- as many wagons take no less -/
def LBo (l o s : Int) : Prop := 0 ≤ o ∧ o % 32768 ≤ l ∧ s + l ≤ l * (o / 32768) + o % 32768
theorem LB_pck {l o s w : Int} (hl : 0 ≤ l) (hl2 : l ≤ 20000) (hw : 0 ≤ w) (hw2 : w ≤ l) (h : LBo l o s) : LBo l (pck o w l) (s + w) := by
  obtain ⟨h1, h2, h3⟩ := h
  obtain ⟨p1, p2, p3⟩ := pck_b h1 h2 hw hw2 hl2
  refine ⟨p1, ?_, ?_⟩
  · rw [p2]; split <;> omega
  · rw [p2, p3]
    by_cases c : o % 32768 + w ≤ l
    · rw [if_pos c, if_pos c]; omega
    · rw [if_neg c, if_neg c, Int.mul_add, Int.mul_one]; omega
theorem LB_all {W : Nat → Int} {l : Int} {n : Nat} (hn : n ≤ 12) (hl : 0 ≤ l) (hl2 : l ≤ 20000) (hW : ∀ i, i < n → 0 ≤ W i ∧ W i ≤ l) : ∀ m, m < 2 ^ n → ∀ q, q ≤ m → LBo l (Btb W l n m q) (bwt W n q) := by
  intro m
  induction m with
  | zero =>
    intro _ q hq
    obtain rfl : q = 0 := by omega
    have e : Btb W l n 0 0 = l := by unfold Btb; rw [uI_s]
    rw [e, bwt_0]
    refine ⟨hl, by omega, ?_⟩
    rw [show l / 32768 = 0 by omega, Int.mul_zero]
    omega
  | succ m ih =>
    intro hm q hq
    by_cases e : q = m + 1
    · subst e
      rw [Btb_s]
      have hI := ih (by omega)
      have all : ∀ k, k ≤ n → LBo l (BST W l n m k) (bwt W n (m + 1)) := by
        intro k
        induction k with
        | zero =>
          intro _
          have e : BST W l n m 0 = 32768 * ((n : Int) + 1) := rfl
          have h1 := bwt_le (W := W) (l := l) (q := m + 1) hl n (fun i hi => (hW i hi).2)
          rw [e]
          refine ⟨by omega, by omega, ?_⟩
          rw [show 32768 * ((n : Int) + 1) / 32768 = (n : Int) + 1 by omega, show 32768 * ((n : Int) + 1) % 32768 = 0 by omega, Int.mul_add, Int.mul_one]
          omega
        | succ k ihk =>
          intro hk
          have h0 := ihk (by omega)
          rw [BST_s]
          by_cases c : tb (m + 1) k
          · have hp := Nat.two_pow_pos k
            have h1 := LB_pck hl hl2 (hW k (by omega)).1 (hW k (by omega)).2 (hI (m + 1 - 2 ^ k) (by omega))
            rw [← bwt_cl (by omega) c] at h1
            rw [if_pos c]
            split
            · exact h1
            · exact h0
          · rw [if_neg c]; exact h0
      exact all n (Nat.le_refl n)
    · rw [Btb_o (by omega)]
      exact ih (by omega) q (by omega)
/-- what wagons tells, against the sum of the weights -/
theorem told_b {W : Nat → Int} {l : Int} {n : Nat} (hn : n ≤ 12) (hl : 0 < l) (hl2 : l ≤ 20000) (hW : ∀ i, i < n → 0 ≤ W i ∧ W i ≤ l) : 0 ≤ Btb W l n (2 ^ n - 1) (2 ^ n - 1) / 32768 ∧ Btb W l n (2 ^ n - 1) (2 ^ n - 1) / 32768 ≤ n ∧ (sm W n + l - 1) / l ≤ Btb W l n (2 ^ n - 1) (2 ^ n - 1) / 32768 := by
  have hp := Nat.two_pow_pos n
  obtain ⟨i1, i2, i3⟩ := INV_all hn (by omega) hl2 hW (2 ^ n - 1) (by omega) (2 ^ n - 1) (Nat.le_refl _) (by omega)
  have i4 := i3 0 (by omega) (Nat.mod_one _)
  obtain ⟨l1, l2, l3⟩ := LB_all hn (by omega) hl2 hW (2 ^ n - 1) (by omega) (2 ^ n - 1) (Nat.le_refl _)
  rw [bwt_all n (Nat.le_refl n)] at l3
  refine ⟨by omega, by omega, ?_⟩
  have h := Int.ediv_lt_of_lt_mul hl (show sm W n + l - 1 < (Btb W l n (2 ^ n - 1) (2 ^ n - 1) / 32768 + 1) * l by rw [Int.add_mul, Int.one_mul, Int.mul_comm]; omega)
  omega
theorem wsz_0 {a : Nat → Int} {X : Nat} (hX : X < 2 ^ 31) : ∀ z : Nat, cn (hereP a) z ≤ 12 → wsz a (iI X) z = 0 → X % 2 ^ cn (hereP a) z = 0 := by
  intro z
  induction z with
  | zero => intro _ _; exact Nat.mod_one _
  | succ z ih =>
    intro h12 h
    have hm := cn_mono (hereP a) (show z ≤ z + 1 by omega)
    rw [wsz] at h
    by_cases c : slP a (iI X) z
    · rw [if_pos c] at h; omega
    · rw [if_neg c] at h
      have h1 := ih (by omega) h
      by_cases d : a (60 + 8 * z) < 2
      · rw [here_t d]
        exact low_0 h1 (fun q => c ⟨d, (bt_tb hX (by omega)).mpr q⟩)
      · rw [here_f d]; exact h1
