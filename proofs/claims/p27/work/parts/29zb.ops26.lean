section
/-! The class's packing, all sets. -/
theorem l_16 {M : MM} {W : Nat → Int} {l : Int} {n : Nat} (hn : n ≤ 12) (hl : 0 ≤ l) (hl2 : l ≤ 20000) (hW : ∀ i, i < n → 0 ≤ W i ∧ W i ≤ l) (h7 : M 7 0 = iI n) (h8 : ∀ i, i < n → M 8 i = iI (W i)) : ∀ (j fu m : Nat) (w : Nat → Int32), m + 1 + j = 2 ^ n → j < fu → (∀ q, q ≤ m → w q = iI (Btb W l n m q)) → ∃ w', lp_X8_fewestWagons_16 fu (sg M 9 w) (iI l) (iI ((2 ^ n : Nat) : Int)) (iI ((m + 1 : Nat) : Int)) = some (iI (Btb W l n (2 ^ n - 1) (2 ^ n - 1) / 32768), sg M 9 w') := by
  have hp12 := p2_le hn
  have e12 : (2 : Nat) ^ 12 = 4096 := rfl
  have hp := Nat.two_pow_pos n
  intro j
  induction j with
  | zero =>
    intro fu m w hm hf hw
    obtain ⟨f, rfl⟩ : ∃ f, fu = f + 1 := ⟨fu - 1, by omega⟩
    have em : m = 2 ^ n - 1 := by omega
    have es : iI ((2 ^ n : Nat) : Int) - 1 = iI ((m : Nat) : Int) := by rw [Z1, iI_sub]; congr 1; omega
    have vs : vin (iI (m : Int)) 4096 := vinI (by omega) (by omega)
    have ts : (iI (m : Int)).toNatClampNeg = m := iI_lo (by omega)
    obtain ⟨i1, i2, i3⟩ := INV_all hn hl hl2 hW m (by omega) m (Nat.le_refl _) (by omega)
    have i4 := i3 0 (by omega) (Nat.mod_one _)
    refine ⟨w, ?_⟩
    unfold lp_X8_fewestWagons_16
    rw [if_pos (by rw [iI_le (by omega) (by omega)]; omega), es, if_pos vs]
    simp only [ts, sg_s]
    rw [hw m (Nat.le_refl _), Z32768, iI_div i1 (by omega) (by omega) (by omega), ← em]
  | succ j ih =>
    intro fu m w hm hf hw
    obtain ⟨f, rfl⟩ : ∃ f, fu = f + 1 := ⟨fu - 1, by omega⟩
    have hI := INV_all hn hl hl2 hW m (by omega)
    have e1 : iI ((m + 1 : Nat) : Int) + 1 = iI ((m + 1 + 1 : Nat) : Int) := by rw [Z1, iI_add]; congr 1
    have vs : vin (iI ((m + 1 : Nat) : Int)) 4096 := vinI (by omega) (by omega)
    have ts : (iI ((m + 1 : Nat) : Int)).toNatClampNeg = m + 1 := iI_lo (by omega)
    have s7 : sg M 9 w 7 0 = iI n := by rw [sg_n (by omega)]; exact h7
    have e13 := l_13 (M := sg M 9 w) hn hl hl2 hW hI (by omega) s7 (fun i hi => by rw [sg_n (by omega)]; exact h8 i hi) (fun q hq => by rw [sg_s]; exact hw q hq) n FU 0 (by omega) (by unfold FU; omega)
    have eb : f_X8_bestFor (sg M 9 w) (iI ((m + 1 : Nat) : Int)) (iI l) = some (iI (BST W l n m n), sg M 9 w) := by
      have e0 : BST W l n m 0 = 32768 * (n + 1) := rfl
      rw [e0] at e13
      unfold f_X8_bestFor
      rw [s7, Z32768, Z1, iI_add, iI_mul]
      exact e13
    obtain ⟨w', hw'⟩ := ih f (m + 1) (upd w (m + 1) (iI (BST W l n m n))) (by omega) (by omega) (fun q hq => by
      by_cases c : q = m + 1
      · rw [c, upd_s, Btb_s]
      · rw [upd_n c, Btb_o (by omega)]; exact hw q (by omega))
    refine ⟨w', ?_⟩
    unfold lp_X8_fewestWagons_16
    rw [if_neg (by rw [iI_le (by omega) (by omega)]; omega), eb, bnd2_s, if_pos vs]
    simp only [ts, up2_sg, letB_e, e1]
    exact hw'
theorem c_fewest {M : MM} {W : Nat → Int} {l : Int} {n : Nat} (hn : n ≤ 12) (hl : 0 ≤ l) (hl2 : l ≤ 20000) (hW : ∀ i, i < n → 0 ≤ W i ∧ W i ≤ l) (h7 : M 7 0 = iI n) (h8 : ∀ i, i < n → M 8 i = iI (W i)) : ∃ w', f_X8_fewestWagons M (iI l) = some (iI (Btb W l n (2 ^ n - 1) (2 ^ n - 1) / 32768), sg M 9 w') := by
  have hp12 := p2_le hn
  have e12 : (2 : Nat) ^ 12 = 4096 := rfl
  have hp := Nat.two_pow_pos n
  obtain ⟨w', hw'⟩ := l_16 (M := M) hn hl hl2 hW h7 h8 (2 ^ n - 1) FU 0 (upd (M 9) 0 (iI l)) (by omega) (by unfold FU; omega) (fun q hq => by
    obtain rfl : q = 0 := by omega
    rw [upd_s, Btb, uI_s])
  refine ⟨w', ?_⟩
  have e0 : up2 M 9 0 (iI l) = sg M 9 (upd (M 9) 0 (iI l)) := by
    have := up2_sg M 9 0 (M 9) (iI l)
    rw [sg_id] at this
    exact this
  unfold f_X8_fewestWagons
  rw [if_pos (by decide), show (0 : Int32).toNatClampNeg = 0 from by decide, letB_e, e0, h7, shl_1 n (by omega)]
  exact hw'
/-! The reference's packing. -/
theorem upd_id (f : Nat → Int32) (z : Nat) : upd f z (f z) = f := by
  funext i
  by_cases h : i = z
  · rw [h, upd_s]
  · rw [upd_n h]
end
