/-! THE LAW'S METHODS: areBells, areMetals. -/
theorem alo_32 {c t : Int} (hc : 0 ≤ c) (ht : 0 ≤ t) (hw : 0 < c + t) (hw2 : c + t ≤ 1000000) : Int64.toInt32 ((1000 : Int64) * Int32.toInt64 (iI t) / Int32.toInt64 (iI (c + t))) = iI (alo c t) := by
  have h1 := alo_nn hc ht
  have h2 := alo_le hc ht
  rw [iI_l (by omega), iI_l (by omega), ZL1000, lI_mul, lI_div (by omega) (by omega) (by omega) (by omega)]
  have e : alo c t = 1000 * t / (c + t) := by unfold alo; rw [if_neg (by omega)]
  rw [← e, lI_i (by omega)]
section GBL
variable {k : Int} {M : MM} {a : Nat → Int} {n : Nat} {H : Nat → Nat → Int} {L : Nat} {t : Nat → Int}
theorem l_areBells (vc : VC M a n H L t) (vb : VB k a n H L t) (J : JJ a) : ∀ (j fu z : Nat), z + j = (a 52).toNat → j < fu → lp_L_areBells_12 fu M (iI (cn (hereP a) z)) (iI (cn (stP a 1) z)) (iI (cn (stP a 2) z)) (iI z) = some (1, M) := by
  have hM := vb.1.1
  unfold BM at hM
  have hN := vb.1.2.2.2.2.2.1
  have no : ¬ (1 : Int32) = 0 := by decide
  intro j
  induction j with
  | zero =>
    intro fu z hz hf
    obtain ⟨f, rfl⟩ : ∃ f, fu = f + 1 := ⟨fu - 1, by omega⟩
    obtain rfl : z = (a 52).toNat := by omega
    have hN' : cn (hereP a) (a 52).toNat ≤ 12 := hN
    have hs : cn (orP a 1) (a 53).toNat = cn (stP a 2) (a 52).toNat := J.2.2.2
    unfold lp_L_areBells_12
    rw [qc1 vc vb, bnd2_s, if_pos (by rw [iI_le (by omega) (by omega)]; omega), if_neg no, qc2 vc vb, bnd2_s, if_pos (show iI (hereN a : Int) = iI (cn (hereP a) (a 52).toNat : Int) from rfl), qc3 vc vb, bnd2_s, if_pos rfl, qc4 vc vb, bnd2_s, if_pos rfl, if_neg (by rw [Z12, iI_lt (by omega) (by omega)]; omega), qc7 vc vb, bnd2_s, if_pos (by rw [hs])]
  | succ j ih =>
    intro fu z hz hf
    obtain ⟨f, rfl⟩ : ∃ f, fu = f + 1 := ⟨fu - 1, by omega⟩
    have hb : z < (a 52).toNat := by omega
    obtain ⟨b1, b2, b3, b4, b5, b6, b7, b8, b9⟩ := vb.1.2.2.2.1 z hb
    obtain ⟨j1, j2, j3, j4⟩ := J.2.2.1 z hb
    have ih1 := ih f (z + 1) (by omega) (by omega)
    have c1 : iI (cn (hereP a) z : Int) + (if (2 : Int32) ≤ iI (a (60 + 8 * z)) then (0 : Int32) else 1) = iI (cn (hereP a) (z + 1) : Int) := by
      by_cases c : a (60 + 8 * z) < 2
      · rw [if_neg (by rw [Z2, iI_le (by omega) (by omega)]; omega), here_t c, Z1, iI_add]; rfl
      · rw [if_pos (by rw [Z2, iI_le (by omega) (by omega)]; omega), here_f c, Z0, iI_add, Int.add_zero]
    have c2 : iI (cn (stP a 1) z : Int) + (if iI (a (60 + 8 * z)) = (1 : Int32) then (1 : Int32) else 0) = iI (cn (stP a 1) (z + 1) : Int) := by
      by_cases c : a (60 + 8 * z) = 1
      · rw [if_pos (by rw [c]; rfl), cn_s (by unfold stP; rw [c]; rfl), Z1, iI_add]; rfl
      · rw [if_neg (by rw [Z1, iI_inj (by omega) (by omega)]; exact c), cn_f (by unfold stP; simpa using c), Z0, iI_add, Int.add_zero]
    have c3 : iI (cn (stP a 2) z : Int) + (if iI (a (60 + 8 * z)) = (2 : Int32) then (1 : Int32) else 0) = iI (cn (stP a 2) (z + 1) : Int) := by
      by_cases c : a (60 + 8 * z) = 2
      · rw [if_pos (by rw [c]; rfl), cn_s (by unfold stP; rw [c]; rfl), Z1, iI_add]; rfl
      · rw [if_neg (by rw [Z2, iI_inj (by omega) (by omega)]; exact c), cn_f (by unfold stP; simpa using c), Z0, iI_add, Int.add_zero]
    have cz : iI (z : Int) + 1 = iI ((z + 1 : Nat) : Int) := iI_1 z
    have hce : (if iI (a (60 + 8 * z)) = (2 : Int32) then (1 : Int32) else 0) = (if iI (a (61 + 8 * z)) = (-4 : Int32) then (0 : Int32) else 1) := by
      by_cases c : a (60 + 8 * z) = 2
      · obtain ⟨o, g1, -⟩ := j4 c
        rw [if_pos (by rw [c]; rfl), if_neg (by rw [Zm4, iI_inj (by omega) (by omega)]; omega)]
      · rw [if_neg (by rw [Z2, iI_inj (by omega) (by omega)]; exact c), if_pos (by rw [b8 c]; rfl)]
    unfold lp_L_areBells_12
    rw [qc1 vc vb, bnd2_s, if_neg (by rw [iI_le (by omega) (by omega)]; omega), if_neg no, qb8 vc vb hb, bnd2_s]
    simp only [letJ_e]
    rw [c1, c2, c3]
    by_cases c : a (60 + 8 * z) = 3
    · have n2 : ¬ iI (a (60 + 8 * z)) = (2 : Int32) := by rw [Z2, iI_inj (by omega) (by omega)]; omega
      rw [qb2x vc vb hb c, bnd2_s, if_neg (by rw [Z0, iI_lt (by omega) (by omega)]; omega), if_neg (by rw [Z4, iI_le (by omega) (by omega)]; omega), qb5 vc vb hb, bnd2_s, if_neg (by rw [Z1, iI_lt (by omega) (by omega)]; omega), qb7 vc vb hb, bnd2_s, if_neg (by rw [Z0, iI_lt (by omega) (by omega)]; omega), qb7 vc vb hb, bnd2_s, qb6 vc vb hb, bnd2_s, if_neg (by rw [iI_le (by omega) (by omega)]; omega), qb9 vc vb hb, bnd2_s, if_pos hce, if_pos (by rw [c]; rfl), if_neg no, if_pos (show iI (-4) = (-4 : Int32) from rfl), qb3x vc vb hb c, bnd2_s, if_pos (show iI (-4) = (-4 : Int32) from rfl), if_neg n2, cz]
      exact ih1
    · have n3 : ¬ iI (a (60 + 8 * z)) = (3 : Int32) := by rw [Z3, iI_inj (by omega) (by omega)]; omega
      have hw := b7 c
      have hd := alo_32 (c := a (54 + 8 * z)) (t := a (55 + 8 * z)) (by omega) (by omega) (by omega) (by omega)
      rw [qb2 vc vb hb c, bnd2_s, if_neg (by rw [Z0, iI_lt (by omega) (by omega)]; omega), if_neg (by rw [Z4, iI_le (by omega) (by omega)]; omega), qb5 vc vb hb, bnd2_s, if_neg (by rw [Z1, iI_lt (by omega) (by omega)]; omega), qb7 vc vb hb, bnd2_s, if_neg (by rw [Z0, iI_lt (by omega) (by omega)]; omega), qb7 vc vb hb, bnd2_s, qb6 vc vb hb, bnd2_s, if_neg (by rw [iI_le (by omega) (by omega)]; omega), qb9 vc vb hb, bnd2_s, if_pos hce, if_neg n3, if_neg no, qb7 vc vb hb, bnd2_s, qb6 vc vb hb, bnd2_s, if_pos (by rw [iI_add, iI_inj (by omega) (by omega)]; exact j3 c), qb0 vc vb hb c, bnd2_s, if_neg (by rw [Z0, iI_lt (by omega) (by omega)]; omega), qb1 vc vb hb c, bnd2_s, if_neg (by rw [Z0, iI_lt (by omega) (by omega)]; omega), qb0 vc vb hb c, bnd2_s, qb1 vc vb hb c, bnd2_s, if_pos (by rw [iI_add]), qb3 vc vb hb c, bnd2_s, qb1 vc vb hb c, bnd2_s, if_neg (by rw [iI_l (by omega), show (0 : Int64) = lI 0 from rfl, lI_inj (by omega) (by omega)]; omega), if_pos hd.symm]
      by_cases c2' : a (60 + 8 * z) = 2
      · obtain ⟨o, g1, g2, g3, g4, g5⟩ := j4 c2'
        have bo := vb.1.2.2.2.2.1 o g2
        unfold BO at bo
        rw [if_pos (by rw [c2']; rfl), qb9 vc vb hb, bnd2_s, if_neg no, g1, qo3 vc vb g2, bnd2_s, if_pos (by rw [g3]; rfl), qo0 vc vb g2, bnd2_s, qb4 vc vb hb, bnd2_s, if_pos (by rw [g4]), qb5 vc vb hb, bnd2_s, qo1 vc vb g2, bnd2_s, qo2 vc vb g2, bnd2_s, if_neg (by rw [iI_sub, iI_lt (by omega) (by omega)]; omega), qo1 vc vb g2, bnd2_s, qb5 vc vb hb, bnd2_s, qo2 vc vb g2, bnd2_s, if_neg (by rw [iI_sub, iI_lt (by omega) (by omega)]; omega), cz]
        exact ih1
      · rw [if_neg (by rw [Z2, iI_inj (by omega) (by omega)]; exact c2'), cz]
        exact ih1
theorem g_areBells (vc : VC M a n H L t) (vb : VB k a n H L t) (J : JJ a) : f_L_areBells M = some (1, M) := by
  have hM := vb.1.1
  unfold BM at hM
  exact l_areBells vc vb J (a 52).toNat FU 0 (by omega) (by unfold FU; omega)
theorem l_m81 (hk : k ≤ 1000) (vc : VC M a n H L t) (vb : VB k a n H L t) (J : JJ a) {m : Nat} (hm : m ≤ 1) : ∀ (j fu z : Nat), z + j = (a 8).toNat → j < fu → lp_L_areMetals_81 fu M (iI m) (iI (sm (fun i => a (9 + 3 * i + m)) z)) (iI z) = some (iI (lotS a m), M) := by
  have hM := vb.1.1
  unfold BM at hM
  have no : ¬ (1 : Int32) = 0 := by decide
  intro j
  induction j with
  | zero =>
    intro fu z hz hf
    obtain ⟨f, rfl⟩ : ∃ f, fu = f + 1 := ⟨fu - 1, by omega⟩
    obtain rfl : z = (a 8).toNat := by omega
    unfold lp_L_areMetals_81
    rw [qc0 vc vb, bnd2_s, if_pos (by rw [iI_le (by omega) (by omega)]; omega)]
    rfl
  | succ j ih =>
    intro fu z hz hf
    obtain ⟨f, rfl⟩ : ∃ f, fu = f + 1 := ⟨fu - 1, by omega⟩
    have hj : z < (a 8).toNat := by omega
    have hl := vb.1.2.2.1 z (by omega)
    unfold BL at hl
    have hl2 := J.2.1 z hj
    unfold lp_L_areMetals_81
    rw [qc0 vc vb, bnd2_s, if_neg (by rw [iI_le (by omega) (by omega)]; omega), qlm hk vc vb hj hm, bnd2_s, if_neg no, ql2 hk vc vb hj, bnd2_s, if_neg (by rw [Z0, iI_le (by omega) (by omega)]; omega), ql0 hk vc vb hj, bnd2_s, ql1 hk vc vb hj, bnd2_s, ql2 hk vc vb hj, bnd2_s, if_pos (by rw [iI_add]), ql4 hk vc vb hj, bnd2_s, if_neg (by rw [Z0, iI_lt (by omega) (by omega)]; omega), ql4 hk vc vb hj, bnd2_s, if_neg (by rw [Z3, iI_le (by omega) (by omega)]; omega), iI_1, iI_add]
    exact ih f (z + 1) (by omega) (by omega)
theorem l_m176 (vc : VC M a n H L t) (vb : VB k a n H L t) {m : Nat} (hm : m ≤ 1) : ∀ (j fu z : Nat), z + j = (a 52).toNat → j < fu → lp_L_areMetals_176 fu M (iI m) (iI (sm (bS a m (hereP a)) z)) (iI (sm (bS a m (stP a 2)) z)) (iI z) = some (iI (belS a m), iI (sntS a m), M) := by
  have hM := vb.1.1
  unfold BM at hM
  intro j
  induction j with
  | zero =>
    intro fu z hz hf
    obtain ⟨f, rfl⟩ : ∃ f, fu = f + 1 := ⟨fu - 1, by omega⟩
    obtain rfl : z = (a 52).toNat := by omega
    unfold lp_L_areMetals_176
    rw [qc1 vc vb, bnd2_s, if_pos (by rw [iI_le (by omega) (by omega)]; omega)]
    rfl
  | succ j ih =>
    intro fu z hz hf
    obtain ⟨f, rfl⟩ : ∃ f, fu = f + 1 := ⟨fu - 1, by omega⟩
    have hb : z < (a 52).toNat := by omega
    obtain ⟨b1, b2, b3, b4, b5, b6, b7, b8, b9⟩ := vb.1.2.2.2.1 z hb
    have ih1 := ih f (z + 1) (by omega) (by omega)
    unfold lp_L_areMetals_176
    rw [qc1 vc vb, bnd2_s, if_neg (by rw [iI_le (by omega) (by omega)]; omega), qb8 vc vb hb, bnd2_s]
    by_cases c : a (60 + 8 * z) < 2
    · have p1 : bS a m (hereP a) z = a (54 + 8 * z + m) := by unfold bS hereP; rw [if_pos (by simpa using c)]
      have p2 : bS a m (stP a 2) z = 0 := by unfold bS stP; rw [if_neg (by simp; omega)]
      rw [sm_s, sm_s, p1, p2] at ih1
      rw [if_neg (by rw [Z2, iI_le (by omega) (by omega)]; omega), qbm vc vb hb hm (by omega), bnd2_s, qb8 vc vb hb, bnd2_s, if_neg (by rw [Z2, iI_inj (by omega) (by omega)]; omega), iI_1, iI_add, Z0, iI_add]
      exact ih1
    · have p1 : bS a m (hereP a) z = 0 := by unfold bS hereP; rw [if_neg (by simpa using c)]
      rw [if_pos (by rw [Z2, iI_le (by omega) (by omega)]; omega), qb8 vc vb hb, bnd2_s]
      by_cases d : a (60 + 8 * z) = 2
      · have p2 : bS a m (stP a 2) z = a (54 + 8 * z + m) := by unfold bS stP; rw [if_pos (by simpa using d)]
        rw [sm_s, sm_s, p1, p2] at ih1
        rw [if_pos (by rw [d]; rfl), qbm vc vb hb hm (by omega), bnd2_s, iI_1, iI_add, Z0, iI_add]
        exact ih1
      · have p2 : bS a m (stP a 2) z = 0 := by unfold bS stP; rw [if_neg (by simpa using d)]
        rw [sm_s, sm_s, p1, p2] at ih1
        rw [if_neg (by rw [Z2, iI_inj (by omega) (by omega)]; exact d), iI_1, Z0, iI_add, iI_add]
        exact ih1
def accS (a : Nat → Int) (m : Nat) : Nat → Int
  | 0 => 0
  | z + 1 => accS a m z + accR a m ((z : Int) + 1)
theorem l_m254 (vc : VC M a n H L t) (vb : VB k a n H L t) {m : Nat} (hm : m ≤ 1) (hp : ∀ z : Nat, z < 6 → 0 ≤ accR a m ((z : Int) + 1) ∧ accR a m ((z : Int) + 1) ≤ 100000000) : ∀ (j fu z : Nat), z + j = 6 → j < fu → lp_L_areMetals_254 fu M (iI m) (iI (accS a m z)) (iI ((z : Int) + 1)) = some (iI (accS a m 6), M) := by
  have no : ¬ (1 : Int32) = 0 := by decide
  intro j
  induction j with
  | zero =>
    intro fu z hz hf
    obtain ⟨f, rfl⟩ : ∃ f, fu = f + 1 := ⟨fu - 1, by omega⟩
    obtain rfl : z = 6 := by omega
    unfold lp_L_areMetals_254
    rw [if_pos (by decide)]
  | succ j ih =>
    intro fu z hz hf
    obtain ⟨f, rfl⟩ : ∃ f, fu = f + 1 := ⟨fu - 1, by omega⟩
    have h1 := hp z (by omega)
    unfold lp_L_areMetals_254
    rw [if_neg (by rw [Z7, iI_le (by omega) (by omega)]; omega), q_account vc vb hm (Y := (z : Int) + 1) (by omega), bnd2_s, if_neg no, q_account vc vb hm (Y := (z : Int) + 1) (by omega), bnd2_s, if_neg (by rw [Z0, iI_lt (by omega) (by omega)]; omega), iI_add, Z1, iI_add]
    exact ih f (z + 1) (by omega) (by omega)
end GBL
