/-! THE LAW'S METHODS, out of the class's state: sum. -/
def fo (f : Nat → Int64 → Int64) : Nat → Nat → Int64 → Int64
  | _, 0, u => u
  | z, j + 1, u => fo f (z + 1) j (f z u)
theorem fo_s (f : Nat → Int64 → Int64) (z j : Nat) (u : Int64) : fo f z (j + 1) u = fo f (z + 1) j (f z u) := rfl
theorem iI_1 (z : Nat) : iI (z : Int) + 1 = iI ((z + 1 : Nat) : Int) := by rw [Z1, iI_add]; rfl
theorem dv5 {z : Nat} (hz : z < 2147483648) : iI (z : Int) / 5 = iI ((z / 5 : Nat) : Int) ∧ iI (z : Int) - iI (z : Int) / 5 * 5 = iI ((z % 5 : Nat) : Int) := by
  have h : iI (z : Int) / 5 = iI ((z / 5 : Nat) : Int) := by rw [Z5, iI_div (by omega) (by omega) (by omega) (by omega)]; rfl
  refine ⟨h, ?_⟩
  rw [h, Z5, iI_mul, iI_sub]
  refine congrArg iI ?_
  omega
theorem dv6 {z : Nat} (hz : z < 2147483648) : iI (z : Int) / 6 = iI ((z / 6 : Nat) : Int) ∧ iI (z : Int) - iI (z : Int) / 6 * 6 = iI ((z % 6 : Nat) : Int) := by
  have h : iI (z : Int) / 6 = iI ((z / 6 : Nat) : Int) := by rw [Z6, iI_div (by omega) (by omega) (by omega) (by omega)]; rfl
  refine ⟨h, ?_⟩
  rw [h, Z6, iI_mul, iI_sub]
  refine congrArg iI ?_
  omega
theorem dv7 {z : Nat} (hz : z < 2147483648) : iI (z : Int) / 7 = iI ((z / 7 : Nat) : Int) ∧ iI (z : Int) - iI (z : Int) / 7 * 7 = iI ((z % 7 : Nat) : Int) := by
  have h : iI (z : Int) / 7 = iI ((z / 7 : Nat) : Int) := by rw [Z7, iI_div (by omega) (by omega) (by omega) (by omega)]; rfl
  refine ⟨h, ?_⟩
  rw [h, Z7, iI_mul, iI_sub]
  refine congrArg iI ?_
  omega
theorem dv10 {z : Nat} (hz : z < 2147483648) : iI (z : Int) / 10 = iI ((z / 10 : Nat) : Int) ∧ iI (z : Int) - iI (z : Int) / 10 * 10 = iI ((z % 10 : Nat) : Int) := by
  have h : iI (z : Int) / 10 = iI ((z / 10 : Nat) : Int) := by rw [Z10, iI_div (by omega) (by omega) (by omega) (by omega)]; rfl
  refine ⟨h, ?_⟩
  rw [h, Z10, iI_mul, iI_sub]
  refine congrArg iI ?_
  omega
def g31 (u : Int64) (x : Int) : Int64 := 31 * u + Int32.toInt64 (iI x)
def svS (a : Nat → Int) (L : Nat) : Int64 := fo (fun z u => g31 u (ordR a (z / 6) ((z % 6 : Nat) : Int))) 0 (6 * (a 53).toNat) (fo (fun z u => g31 u (belR a (z / 10) ((z % 10 : Nat) : Int))) 0 (10 * (a 52).toNat) (fo (fun z u => g31 u (lotR a (z / 5) ((z % 5 : Nat) : Int))) 0 (5 * (a 8).toNat) (fo (fun z u => g31 u (accR a (z / 7) ((z % 7 : Nat) : Int))) 0 14 (fo (fun z u => g31 u (cntR a 0 L (z : Int))) 20 7 (fo (fun z u => if z = 8 then u else g31 u (cntR a 0 L (z : Int))) 0 10 17)))))
theorem cntR_8 {a : Nat → Int} {n L : Nat} {X : Int} (h : X ≠ 8) : cntR a n L X = cntR a 0 L X := by
  unfold cntR
  simp only [if_neg h]
section GSM
variable {k : Int} {M : MM} {a : Nat → Int} {n : Nat} {H : Nat → Nat → Int} {L : Nat} {t : Nat → Int}
theorem l_s182 (vc : VC M a n H L t) (vb : VB k a n H L t) : ∀ (j fu z : Nat) (u : Int64), z + j = 6 * (a 53).toNat → j < fu → lp_L_sum_182 fu M u (iI z) = some (fo (fun z u => g31 u (ordR a (z / 6) ((z % 6 : Nat) : Int))) z j u, M) := by
  have hM := vb.1.1
  unfold BM at hM
  intro j
  induction j with
  | zero =>
    intro fu z u hz hf
    obtain ⟨f, rfl⟩ : ∃ f, fu = f + 1 := ⟨fu - 1, by omega⟩
    unfold lp_L_sum_182
    rw [qc5 vc vb, bnd2_s, Z6, iI_mul, if_pos (by rw [iI_le (by omega) (by omega)]; omega)]
    rfl
  | succ j ih =>
    intro fu z u hz hf
    obtain ⟨f, rfl⟩ : ∃ f, fu = f + 1 := ⟨fu - 1, by omega⟩
    unfold lp_L_sum_182
    rw [qc5 vc vb, bnd2_s, if_neg (by rw [Z6, iI_mul, iI_le (by omega) (by omega)]; omega), (dv6 (z := z) (by omega)).2, (dv6 (z := z) (by omega)).1, q_orderOf vc vb (o := z / 6) (by omega) (Y := ((z % 6 : Nat) : Int)) (by omega), bnd2_s, iI_1, fo_s]
    exact ih f (z + 1) _ (by omega) (by omega)
theorem l_s142 (vc : VC M a n H L t) (vb : VB k a n H L t) : ∀ (j fu z : Nat) (u : Int64), z + j = 10 * (a 52).toNat → j < fu → lp_L_sum_142 fu M u (iI z) = lp_L_sum_182 FU M (fo (fun z u => g31 u (belR a (z / 10) ((z % 10 : Nat) : Int))) z j u) 0 := by
  have hM := vb.1.1
  unfold BM at hM
  intro j
  induction j with
  | zero =>
    intro fu z u hz hf
    obtain ⟨f, rfl⟩ : ∃ f, fu = f + 1 := ⟨fu - 1, by omega⟩
    unfold lp_L_sum_142
    rw [qc1 vc vb, bnd2_s, Z10, iI_mul, if_pos (by rw [iI_le (by omega) (by omega)]; omega)]
    rfl
  | succ j ih =>
    intro fu z u hz hf
    obtain ⟨f, rfl⟩ : ∃ f, fu = f + 1 := ⟨fu - 1, by omega⟩
    unfold lp_L_sum_142
    rw [qc1 vc vb, bnd2_s, if_neg (by rw [Z10, iI_mul, iI_le (by omega) (by omega)]; omega), (dv10 (z := z) (by omega)).2, (dv10 (z := z) (by omega)).1, q_bell vc vb (j := z / 10) (by omega) (Y := ((z % 10 : Nat) : Int)) (by omega), bnd2_s, iI_1, fo_s]
    exact ih f (z + 1) _ (by omega) (by omega)
theorem l_s105 (hk : k ≤ 1000) (vc : VC M a n H L t) (vb : VB k a n H L t) : ∀ (j fu z : Nat) (u : Int64), z + j = 5 * (a 8).toNat → j < fu → lp_L_sum_105 fu M u (iI z) = lp_L_sum_142 FU M (fo (fun z u => g31 u (lotR a (z / 5) ((z % 5 : Nat) : Int))) z j u) 0 := by
  have hM := vb.1.1
  unfold BM at hM
  intro j
  induction j with
  | zero =>
    intro fu z u hz hf
    obtain ⟨f, rfl⟩ : ∃ f, fu = f + 1 := ⟨fu - 1, by omega⟩
    unfold lp_L_sum_105
    rw [qc0 vc vb, bnd2_s, Z5, iI_mul, if_pos (by rw [iI_le (by omega) (by omega)]; omega)]
    rfl
  | succ j ih =>
    intro fu z u hz hf
    obtain ⟨f, rfl⟩ : ∃ f, fu = f + 1 := ⟨fu - 1, by omega⟩
    unfold lp_L_sum_105
    rw [qc0 vc vb, bnd2_s, if_neg (by rw [Z5, iI_mul, iI_le (by omega) (by omega)]; omega), (dv5 (z := z) (by omega)).2, (dv5 (z := z) (by omega)).1, q_lot hk vc vb (j := z / 5) (by omega) (Y := ((z % 5 : Nat) : Int)) (by omega), bnd2_s, iI_1, fo_s]
    exact ih f (z + 1) _ (by omega) (by omega)
theorem l_s71 (vc : VC M a n H L t) (vb : VB k a n H L t) : ∀ (j fu z : Nat) (u : Int64), z + j = 14 → j < fu → lp_L_sum_71 fu M u (iI z) = lp_L_sum_105 FU M (fo (fun z u => g31 u (accR a (z / 7) ((z % 7 : Nat) : Int))) z j u) 0 := by
  intro j
  induction j with
  | zero =>
    intro fu z u hz hf
    obtain ⟨f, rfl⟩ : ∃ f, fu = f + 1 := ⟨fu - 1, by omega⟩
    unfold lp_L_sum_71
    rw [if_pos (by rw [show (14 : Int32) = iI 14 from rfl, iI_le (by omega) (by omega)]; omega)]
    rfl
  | succ j ih =>
    intro fu z u hz hf
    obtain ⟨f, rfl⟩ : ∃ f, fu = f + 1 := ⟨fu - 1, by omega⟩
    unfold lp_L_sum_71
    rw [if_neg (by rw [show (14 : Int32) = iI 14 from rfl, iI_le (by omega) (by omega)]; omega), (dv7 (z := z) (by omega)).2, (dv7 (z := z) (by omega)).1, q_account vc vb (m := z / 7) (by omega) (Y := ((z % 7 : Nat) : Int)) (by omega), bnd2_s, iI_1, fo_s]
    exact ih f (z + 1) _ (by omega) (by omega)
theorem l_s44 (vc : VC M a n H L t) (vb : VB k a n H L t) : ∀ (j fu z : Nat) (u : Int64), z + j = 27 → 9 < z → j < fu → lp_L_sum_44 fu M u (iI z) = lp_L_sum_71 FU M (fo (fun z u => g31 u (cntR a 0 L (z : Int))) z j u) 0 := by
  intro j
  induction j with
  | zero =>
    intro fu z u hz h9 hf
    obtain ⟨f, rfl⟩ : ∃ f, fu = f + 1 := ⟨fu - 1, by omega⟩
    unfold lp_L_sum_44
    rw [if_pos (by rw [show (27 : Int32) = iI 27 from rfl, iI_le (by omega) (by omega)]; omega)]
    rfl
  | succ j ih =>
    intro fu z u hz h9 hf
    obtain ⟨f, rfl⟩ : ∃ f, fu = f + 1 := ⟨fu - 1, by omega⟩
    unfold lp_L_sum_44
    rw [if_neg (by rw [show (27 : Int32) = iI 27 from rfl, iI_le (by omega) (by omega)]; omega), q_count vc vb (X := (z : Int)) (by omega), bnd2_s, iI_1, fo_s, cntR_8 (by omega)]
    exact ih f (z + 1) _ (by omega) (by omega) (by omega)
theorem l_s6 (vc : VC M a n H L t) (vb : VB k a n H L t) : ∀ (j fu z : Nat) (u : Int64), z + j = 10 → j < fu → lp_L_sum_6 fu M u (iI z) = lp_L_sum_44 FU M (fo (fun z u => if z = 8 then u else g31 u (cntR a 0 L (z : Int))) z j u) 20 := by
  intro j
  induction j with
  | zero =>
    intro fu z u hz hf
    obtain ⟨f, rfl⟩ : ∃ f, fu = f + 1 := ⟨fu - 1, by omega⟩
    unfold lp_L_sum_6
    rw [if_pos (by rw [Z10, iI_le (by omega) (by omega)]; omega)]
    rfl
  | succ j ih =>
    intro fu z u hz hf
    obtain ⟨f, rfl⟩ : ∃ f, fu = f + 1 := ⟨fu - 1, by omega⟩
    unfold lp_L_sum_6
    rw [if_neg (by rw [Z10, iI_le (by omega) (by omega)]; omega), fo_s]
    by_cases c : z = 8
    · rw [if_pos (by rw [c]; rfl), iI_1]
      simp only [if_pos c]
      exact ih f (z + 1) _ (by omega) (by omega)
    · rw [if_neg (by rw [Z8, iI_inj (by omega) (by omega)]; omega), q_count vc vb (X := (z : Int)) (by omega), bnd2_s, iI_1, cntR_8 (by omega)]
      simp only [if_neg c]
      exact ih f (z + 1) _ (by omega) (by omega)
theorem g_sum (hk : k ≤ 1000) (vc : VC M a n H L t) (vb : VB k a n H L t) : f_L_sum M = some (svS a L, M) := by
  have hM := vb.1.1
  unfold BM at hM
  unfold f_L_sum
  rw [show (0 : Int32) = iI ((0 : Nat) : Int) from rfl, l_s6 vc vb 10 FU 0 17 (by omega) (by unfold FU; omega), show (20 : Int32) = iI ((20 : Nat) : Int) from rfl, l_s44 vc vb 7 FU 20 _ (by omega) (by omega) (by unfold FU; omega), show (0 : Int32) = iI ((0 : Nat) : Int) from rfl, l_s71 vc vb 14 FU 0 _ (by omega) (by unfold FU; omega), show (0 : Int32) = iI ((0 : Nat) : Int) from rfl, l_s105 hk vc vb (5 * (a 8).toNat) FU 0 _ (by omega) (by unfold FU; omega), show (0 : Int32) = iI ((0 : Nat) : Int) from rfl, l_s142 vc vb (10 * (a 52).toNat) FU 0 _ (by omega) (by unfold FU; omega), show (0 : Int32) = iI ((0 : Nat) : Int) from rfl, l_s182 vc vb (6 * (a 53).toNat) FU 0 _ (by omega) (by unfold FU; omega)]
  rfl
end GSM
