/-! THE LAW'S METHODS: refused; what else the class answers. -/
theorem lgc_eq {x y : Int64} : lg_cmp x y = 0 ↔ x = y := by
  unfold lg_cmp
  by_cases h : x > y
  · rw [if_pos h]
    refine ⟨fun q => absurd q (by decide), fun q => ?_⟩
    subst q
    exact absurd h (Int64.lt_irrefl)
  · rw [if_neg h]
    by_cases e : x = y
    · rw [if_pos e]; exact ⟨fun _ => e, fun _ => rfl⟩
    · rw [if_neg e]; exact ⟨fun q => absurd q (by decide), fun q => absurd q e⟩
def poR (a : Nat → Int) (o : Nat) : Int := pF (bC a) (bT a) (a 49) (a (854 + 4 * o)) (a (855 + 4 * o)) 10000
section GRF
variable {k : Int} {M : MM} {a : Nat → Int} {n : Nat} {H : Nat → Nat → Int} {L : Nat} {t : Nat → Int}
theorem q_wagons (vc : VC M a n H L t) (vb : VB k a n H L t) {y : Nat} (d : y < 2 ^ hereN a) : ∃ M1, f_X10_wagons M (iI y) = some (if wlt a (iI y) (a 52).toNat = 0 then -2 else iI (Btb (wwt a (iI y) (a 52).toNat) (a 51) (wsz a (iI y) (a 52).toNat) (2 ^ wsz a (iI y) (a 52).toNat - 1) (2 ^ wsz a (iI y) (a 52).toNat - 1) / 32768), M1) ∧ VC M1 a n H L t := by
  have R := vc.1
  have hM' := vb.1.1
  have hS := vb.1.2.1
  unfold BM at hM'
  have hB := vb.1.2.2.2.1
  have hN := vb.1.2.2.2.2.2.1
  have hp12 := p2_le hN
  have e12 : (2 : Nat) ^ 12 = 4096 := rfl
  have hrem := c_remaining R (by omega) hB
  have hy : y < 2 ^ 31 := by omega
  obtain ⟨M1, k1, g1⟩ := c_packed R hS (nb := (a 52).toNat) (by omega) hN hB hy
  refine ⟨M1, ?_, vc.scr (fun G hG => g1 G (by omega) (by omega) (by omega))⟩
  have hpp : (0 : Int) ≤ ((2 ^ hereN a : Nat) : Int) := Int.natCast_nonneg _
  unfold f_X10_wagons f_X8_clear
  rw [if_neg (by rw [Z0, iI_lt (by omega) (by omega)]; omega), hrem, bnd2_s, shl_1 _ (by omega), if_pos (by rw [iI_lt (by omega) (by omega)]; omega), letB_e, bnd2_s]
  exact k1
theorem q_wagons_no (vc : VC M a n H L t) (vb : VB k a n H L t) {y : Nat} (d : 2 ^ hereN a ≤ y) (hy : y < 2147483648) : f_X10_wagons M (iI y) = some (-1, M) := by
  have hM' := vb.1.1
  unfold BM at hM'
  have hN := vb.1.2.2.2.2.2.1
  have hp12 := p2_le hN
  have e12 : (2 : Nat) ^ 12 = 4096 := rfl
  have hrem := c_remaining vc.1 (by omega) vb.1.2.2.2.1
  have hpp : (0 : Int) ≤ ((2 ^ hereN a : Nat) : Int) := Int.natCast_nonneg _
  unfold f_X10_wagons
  rw [if_neg (by rw [Z0, iI_lt (by omega) (by omega)]; omega), hrem, bnd2_s, shl_1 _ (by omega), if_neg (by rw [iI_lt (by omega) (by omega)]; omega)]
theorem q_fault_no : f_X10_fault M 2 = some (-1, M) := by
  unfold f_X10_fault
  rw [show f_X10_isIn M 2 0 1 = _ from e_inL (x := 2) 0 1 (by omega) Z0 Z1 (by omega) (by omega), bnd2_s, ifn (by omega)]
theorem q_frame_no : f_X10_frame M 6 = some (-1, M) := by
  unfold f_X10_frame
  rw [show f_X10_isIn M 6 0 5 = _ from e_inL (x := 6) 0 5 (by omega) Z0 Z5 (by omega) (by omega), bnd2_s, ifn (by omega)]
theorem q_pourFor_no (vc : VC M a n H L t) (vb : VB k a n H L t) {X : Int} (hX : B31 X) (hx : ¬ (0 ≤ X ∧ X ≤ a 53 - 1)) : f_X10_pourFor M (iI X) = some (-1, M) := by
  have hM := vb.1.1
  unfold BM at hM
  unfold f_X10_pourFor optE
  rw [orderAt_none vc.1 (by omega) hX hx, bnd2_s]
theorem q_pourFor (vc : VC M a n H L t) (vb : VB k a n H L t) {o : Nat} (ho : o < (a 53).toNat) : ∃ M1, f_X10_pourFor M (iI o) = some (iI (poR a o), M1) ∧ VC M1 a n H L t := by
  have R := vc.1
  have hM := vb.1.1
  have hS := vb.1.2.1
  have hbb := bC_b hM hS
  have hM' := hM
  have hS' := hS
  unfold BM at hM'
  unfold BS at hS'
  have O := vb.1.2.2.2.2.1 o ho
  have O' := O
  unfold BO at O'
  obtain ⟨Mb, kb, gb, z0, z1⟩ := c_burntMelt R hM hS
  have wb := CW.o65 R gb
  have Rb := wb.1
  have bw : f_X6_weight Mb (65 + 0) 0 = some (iI (bC a + bT a), Mb) := by
    rw [e_weight]; show some (Mb 65 0 + Mb 65 1, Mb) = _; rw [z0, z1, iI_add]
  have hvb := hv_b (pf := a (854 + 4 * o)) (pt := a (855 + 4 * o))
  obtain ⟨most, hmost⟩ : ∃ most : Nat, (most : Int) = if hv (a (854 + 4 * o)) (a (855 + 4 * o)) < bC a + bT a then hv (a (854 + 4 * o)) (a (855 + 4 * o)) else bC a + bT a :=
    ⟨(if hv (a (854 + 4 * o)) (a (855 + 4 * o)) < bC a + bT a then hv (a (854 + 4 * o)) (a (855 + 4 * o)) else bC a + bT a).toNat, by split <;> omega⟩
  have hm1 : (most : Int) ≤ bC a + bT a ∧ (most : Int) ≤ 10000 := by
    by_cases c : hv (a (854 + 4 * o)) (a (855 + 4 * o)) < bC a + bT a
    · rw [if_pos c] at hmost; omega
    · rw [if_neg c] at hmost; omega
  have hno : ∀ z : Nat, most < z → z ≤ 10000 → ¬ gdP (bC a) (bT a) (a 49) (a (854 + 4 * o)) (a (855 + 4 * o)) z := by
    intro z h1 h2
    by_cases c : hv (a (854 + 4 * o)) (a (855 + 4 * o)) < bC a + bT a
    · rw [if_pos c] at hmost
      exact hv_no (by omega) (by omega) (by omega) (by omega) (by omega)
    · rw [if_neg c] at hmost
      intro q
      have := sh_nn (p := z) (s := a 49) (by omega) (by omega)
      have := q.1
      omega
  have hpf := pF_eq (c0 := bC a) (t0 := bT a) (sp := a 49) (pf := a (854 + 4 * o)) (pt := a (855 + 4 * o)) (m := most) (10000 - most) (fun z h1 h2 => hno z h1 (by omega))
  rw [show most + (10000 - most) = 10000 by omega] at hpf
  refine ⟨Mb, ?_, vc.step wb⟩
  have rt : ∃ u : Int, f_X10_rootOf Mb (iI most) = some (iI u, Mb) ∧ (0 < most → rtI most ≤ u) ∧ u ≤ 5000 := by
    by_cases c : most = 0
    · exact ⟨1, by rw [c]; exact c_rootOf0 Mb, fun q => by omega, by omega⟩
    · have := rtI_b (w := most) (by omega) (by omega)
      exact ⟨rtI most, c_rootOf (by omega) (by omega) (rtI_is (by omega) (by omega)), fun _ => Int.le_refl _, by omega⟩
  obtain ⟨u, ku, hu1, hu2⟩ := rt
  unfold f_X10_pourFor optE poR
  rw [orderAt_some R ho, bnd2_s]
  simp only
  unfold f_X9_heaviestBellFor
  rw [kb, bnd2_s, bw, bnd2_s, Rb.o0 ho, Rb.o1 ho, c_hv (by omega) (by omega), bnd2_s, e_jmin (by omega) (by omega), ← hmost, ku, bnd2_s, l_33 Rb hS ho O z0 z1 (by omega) (by omega) (by omega) most FU u (by omega) (by omega) (by unfold FU; omega) hu1 hu2, bnd2_s, hpf]
theorem g_refused (hk : k ≤ 1000) (vc : VC M a n H L t) (vb : VB k a n H L t) : ∃ M1, f_L_refused M = some (1, M1) ∧ VC M1 a n H L t := by
  have hM := vb.1.1
  unfold BM at hM
  have hN := vb.1.2.2.2.2.2.1
  have hO := vb.1.2.2.2.2.2.2
  have n4 := vb.2.1
  have hp12 := p2_le hN
  have e12 : (2 : Nat) ^ 12 = 4096 := rfl
  have no : ¬ (1 : Int32) = 0 := by decide
  have e1 : f_X10_lot M 12 0 = some (-1, M) := q_lot_no vc vb (X := 12) (Y := 0) (by omega) (by omega)
  have e2 : f_X10_tune M (iI (a 52)) 1 = some (-1, M) := s_tune_no vc vb (Y := 1) (by omega) (by omega) (Or.inl (by omega))
  have e3 : f_X10_tune M 0 1001 = some (-1, M) := s_tune_no vc vb (X := 0) (Y := 1001) (by omega) (by omega) (Or.inr (by omega))
  have e4 : f_X10_bell M (iI (a 52)) 0 = some (-1, M) := q_bell_no vc vb (Y := 0) (by omega) (by omega)
  have e5 : f_X10_send M (iI (a 52)) 0 = some (-1, M) := s_send_no vc vb (Y := 0) (by omega) (by omega) (Or.inl (by omega))
  have e6 : f_X10_orderOf M (iI (a 53)) 0 = some (-1, M) := q_orderOf_no vc vb (Y := 0) (by omega) (by omega)
  have e7 : f_X10_tuneFor M (-1) 0 = some (-1, M) := by
    have h := q_tuneFor_no vc vb (X := -1) (Y := 0) (by omega) (by omega) (by omega)
    rw [← Zm1, ← Z0] at h
    exact h
  have e8 : f_X10_wagons M 4096 = some (-1, M) := q_wagons_no vc vb (y := 4096) (by omega) (by omega)
  have e9 : f_X10_account M 0 (-1) = some (-1, M) := by
    have h := q_account vc vb (m := 0) (Y := -1) (by omega) (by omega)
    unfold accR at h
    rw [if_neg (by omega), if_neg (by omega), if_neg (by omega), if_neg (by omega), if_neg (by omega), if_neg (by omega), if_neg (by omega), ← Zm1, Int.ofNat_zero, ← Z0] at h
    exact h
  unfold f_L_refused
  rw [g_sum hk vc vb, bnd2_s, qc8 vc vb, bnd2_s, qc1 vc vb, bnd2_s, qc5 vc vb, bnd2_s, s_buy_no rfl, bnd2_s, if_pos rfl, s_charge_no, bnd2_s, if_pos rfl, qc0 vc vb, bnd2_s, s_scrap_no vc vb (by omega) (by omega), bnd2_s, if_pos rfl, e1, bnd2_s, if_pos rfl, q_melt_no, bnd2_s, if_pos rfl, s_set_no, bnd2_s, if_pos rfl, s_pour_no, bnd2_s, if_pos rfl, e2, bnd2_s, if_pos rfl, e3, bnd2_s, if_pos rfl, s_smash_no vc vb (by omega) (by omega), bnd2_s, if_pos rfl, e4, bnd2_s, if_pos rfl, s_order_no, bnd2_s, if_pos rfl, s_cancel_no vc vb (by omega) (by omega), bnd2_s, if_pos rfl, e5, bnd2_s, if_pos rfl, e6, bnd2_s, if_pos rfl, e7, bnd2_s, if_pos rfl, q_pourFor_no vc vb (by omega) (by omega), bnd2_s, if_pos rfl, e8, bnd2_s, if_pos rfl, e9, bnd2_s, if_pos rfl, qc19 vc vb, bnd2_s, if_pos rfl, q_frame_no, bnd2_s, if_pos rfl, q_fault_no, bnd2_s, if_pos rfl, if_neg no, qc2 vc vb, bnd2_s]
  have fin : ∀ M1, VC M1 a n H L t → (bnd2 (f_L_sum M1) fun r Mq => (if (lg_cmp (r) (svS a L) : Int32) = 0 then (bnd2 (f_X10_count Mq 8) fun r2 Mr => (if (r2 : Int32) = (iI (n : Int) : Int32) then some ((1 : Int32), Mr) else none)) else none)) = some (1, M1) := by
    intro M1 v1
    rw [g_sum hk v1 vb, bnd2_s, if_pos (lgc_eq.mpr rfl), qc8 v1 vb, bnd2_s, if_pos rfl]
  have ord : ∀ M1, VC M1 a n H L t → openN a = 8 → f_X10_order M1 0 1 0 = some (-3, M1) := by
    intro M1 v1 h8
    rcases s_order v1 vb (X := 0) (Y := 1) (U := 0) (by omega) (by omega) (by omega) with h | h
    · exact h.2
    · exact absurd h8 h.1
  by_cases c : hereN a = 12
  · rw [if_neg (by rw [Z12, iI_lt (by omega) (by omega)]; omega)]
    obtain ⟨r, M1, h1, h2, v1⟩ : ∃ (r : Int) (M1 : MM), f_X10_pour M 0 1 = some (iI r, M1) ∧ (r = -2 ∨ r = -3) ∧ VC M1 a n H L t := by
      rcases s_pour vc vb (X := 0) (Y := 1) (by omega) (by omega) with ⟨-, M1, h1, h2⟩ | ⟨-, -, M1, h1, h2⟩ | ⟨-, h1, -⟩
      · refine ⟨-2, M1, ?_, Or.inl rfl, h2⟩; rw [← Zm2, Z0, Z1]; exact h1
      · refine ⟨-3, M1, ?_, Or.inr rfl, h2⟩; rw [← Zm3, Z0, Z1]; exact h1
      · exact absurd c h1
    refine ⟨M1, ?_, v1⟩
    rw [h1, bnd2_s, if_neg (by rw [Z0, iI_le (by omega) (by omega)]; omega), qc6 v1 vb, bnd2_s]
    by_cases d : openN a = 8
    · rw [if_neg (by rw [Z8, iI_lt (by omega) (by omega)]; omega), ord M1 v1 d, bnd2_s, if_pos rfl, if_neg no]
      exact fin M1 v1
    · rw [if_pos (by rw [Z8, iI_lt (by omega) (by omega)]; omega), if_neg no]
      exact fin M1 v1
  · refine ⟨M, ?_, vc⟩
    rw [if_pos (by rw [Z12, iI_lt (by omega) (by omega)]; omega), qc6 vc vb, bnd2_s]
    by_cases d : openN a = 8
    · rw [if_neg (by rw [Z8, iI_lt (by omega) (by omega)]; omega), ord M vc d, bnd2_s, if_pos rfl, if_neg no]
      exact fin M vc
    · rw [if_pos (by rw [Z8, iI_lt (by omega) (by omega)]; omega), if_neg no]
      exact fin M vc
end GRF
