/-! THE LAW'S METHODS: areMetals, fits. -/
theorem tF_spec {a : Nat → Int} {b o : Nat} : ∀ i : Nat, i ≤ 1000 → tF a b o i = -4 ∨ ∃ y : Int, tF a b o i = y ∧ ((1001 : Int) - i ≤ y ∧ y ≤ 1000) ∧ ¬ tStop a b y ∧ pOK a o (tlow a b y) ∧ ∀ m : Int, (1001 : Int) - i ≤ m → m < y → ¬ tStop a b m ∧ ¬ pOK a o (tlow a b m) := by
  intro i
  induction i with
  | zero => intro _; exact Or.inl rfl
  | succ i ih =>
    intro hi
    have e : tF a b o (i + 1) = if tStop a b ((1001 : Int) - (i + 1 : Nat)) then -4 else if pOK a o (tlow a b ((1001 : Int) - (i + 1 : Nat))) then (1001 : Int) - (i + 1 : Nat) else tF a b o i := rfl
    by_cases c : tStop a b ((1001 : Int) - (i + 1 : Nat))
    · exact Or.inl (by rw [e, if_pos c])
    · by_cases d : pOK a o (tlow a b ((1001 : Int) - (i + 1 : Nat)))
      · exact Or.inr ⟨(1001 : Int) - (i + 1 : Nat), by rw [e, if_neg c, if_pos d], by omega, c, d, fun m h1 h2 => by omega⟩
      · rw [if_neg c, if_neg d] at e
        rcases ih (by omega) with h | ⟨y, h1, h2, h3, h4, h5⟩
        · exact Or.inl (e.trans h)
        · refine Or.inr ⟨y, e.trans h1, by omega, h3, h4, fun m m1 m2 => ?_⟩
          by_cases q : m = (1001 : Int) - (i + 1 : Nat)
          · rw [q]; exact ⟨c, d⟩
          · exact h5 m (by omega) m2
theorem tunR_0 {a : Nat → Int} {b o : Nat} : tunR a b o = 0 ↔ fit a b o := by
  unfold tunR
  by_cases c : a (60 + 8 * b) = 0
  · rw [if_pos c]
    by_cases d : fit a b o
    · rw [if_pos d]; exact ⟨fun _ => d, fun _ => rfl⟩
    · rw [if_neg d]
      refine ⟨fun q => absurd q ?_, fun q => absurd q d⟩
      split
      · rcases tF_spec (a := a) (b := b) (o := o) 1000 (by omega) with h | ⟨y, h1, h2, -⟩ <;> omega
      · omega
  · rw [if_neg c]
    exact ⟨fun q => by omega, fun q => absurd q.1 c⟩
theorem tunR_b {a : Nat → Int} {b o : Nat} : -4 ≤ tunR a b o ∧ tunR a b o ≤ 1000 := by
  unfold tunR
  split
  · split
    · omega
    · split
      · rcases tF_spec (a := a) (b := b) (o := o) 1000 (by omega) with h | ⟨y, h1, h2, -⟩ <;> omega
      · omega
  · omega
section GFT
variable {k : Int} {M : MM} {a : Nat → Int} {n : Nat} {H : Nat → Nat → Int} {L : Nat} {t : Nat → Int}
theorem acc_b (vb : VB k a n H L t) (J : JJ a) {m : Nat} (hm : m ≤ 1) : 0 ≤ lotS a m ∧ 0 ≤ belS a m ∧ 0 ≤ sntS a m ∧ 0 ≤ a (4 + m) ∧ 0 ≤ a m ∧ 0 ≤ a (6 + m) := by
  have hM := vb.1.1
  unfold BM at hM
  have hm' : m = 0 ∨ m = 1 := by omega
  have hb : ∀ b, b < (a 52).toNat → 0 ≤ a (54 + 8 * b + m) := fun b hb => by
    obtain ⟨b1, -⟩ := vb.1.2.2.2.1 b hb
    rcases hm' with rfl | rfl
    · exact b1.1
    · rw [show 54 + 8 * b + 1 = 55 + 8 * b by omega]; exact b1.2.1
  refine ⟨sm_nn _ (fun i hi => ?_), sm_nn _ (fun i hi => ?_), sm_nn _ (fun i hi => ?_), (J.1 m hm).2, ?_, ?_⟩
  · have hl := vb.1.2.2.1 i (by omega)
    unfold BL at hl
    rcases hm' with rfl | rfl
    · exact hl.1
    · show 0 ≤ a (9 + 3 * i + 1); rw [show 9 + 3 * i + 1 = 10 + 3 * i by omega]; exact hl.2.1
  · unfold bS; split
    · exact hb i hi
    · exact Int.le_refl _
  · unfold bS; split
    · exact hb i hi
    · exact Int.le_refl _
  · rcases hm' with rfl | rfl <;> omega
  · rcases hm' with rfl | rfl
    · exact hM.2.2.1
    · exact hM.2.2.2.1
theorem l_m61 (hk : k ≤ 1000) (vc : VC M a n H L t) (vb : VB k a n H L t) (J : JJ a) (hT : ∀ m, m ≤ 1 → a (2 + m) ≤ 1000000) : ∀ (j fu m : Nat), m + j = 2 → j < fu → lp_L_areMetals_61 fu M (iI m) = some (1, M) := by
  have hM := vb.1.1
  unfold BM at hM
  have no : ¬ (1 : Int32) = 0 := by decide
  intro j
  induction j with
  | zero =>
    intro fu m hz hf
    obtain ⟨f, rfl⟩ : ∃ f, fu = f + 1 := ⟨fu - 1, by omega⟩
    obtain rfl : m = 2 := by omega
    unfold lp_L_areMetals_61
    rw [if_pos (by decide)]
  | succ j ih =>
    intro fu m hz hf
    obtain ⟨f, rfl⟩ : ∃ f, fu = f + 1 := ⟨fu - 1, by omega⟩
    have hm : m ≤ 1 := by omega
    have hb := acc_b vb J hm
    have hJ := J.1 m hm
    unfold JM at hJ
    have hT1 := hT m hm
    have hp : ∀ z : Nat, z < 6 → 0 ≤ accR a m ((z : Int) + 1) ∧ accR a m ((z : Int) + 1) ≤ 100000000 := by
      intro z hz6
      have h6 : z = 0 ∨ z = 1 ∨ z = 2 ∨ z = 3 ∨ z = 4 ∨ z = 5 := by omega
      rcases h6 with rfl | rfl | rfl | rfl | rfl | rfl
      · show 0 ≤ a m ∧ a m ≤ 100000000; omega
      · show 0 ≤ a (6 + m) ∧ a (6 + m) ≤ 100000000; omega
      · show 0 ≤ lotS a m ∧ lotS a m ≤ 100000000; omega
      · show 0 ≤ belS a m ∧ belS a m ≤ 100000000; omega
      · show 0 ≤ sntS a m ∧ sntS a m ≤ 100000000; omega
      · show 0 ≤ a (4 + m) ∧ a (4 + m) ≤ 100000000; omega
    have e81 : lp_L_areMetals_81 FU M (iI m) 0 0 = some (iI (lotS a m), M) := l_m81 hk vc vb J hm (a 8).toNat FU 0 (by omega) (by unfold FU; omega)
    have e176 : lp_L_areMetals_176 FU M (iI m) 0 0 0 = some (iI (belS a m), iI (sntS a m), M) := l_m176 vc vb hm (a 52).toNat FU 0 (by omega) (by unfold FU; omega)
    have e254 : lp_L_areMetals_254 FU M (iI m) 0 1 = some (iI (accS a m 6), M) := l_m254 vc vb hm hp 6 FU 0 (by omega) (by unfold FU; omega)
    have eS : accS a m 6 = 0 + a m + a (6 + m) + lotS a m + belS a m + sntS a m + a (4 + m) := rfl
    unfold lp_L_areMetals_61
    rw [if_neg (by rw [Z2, iI_le (by omega) (by omega)]; omega), if_neg no, e81, bnd2_s, e176, bnd3_s, e254, bnd2_s, if_neg no, qa0 vc vb hm, bnd2_s, if_pos (by rw [eS, hJ.1]; refine congrArg iI ?_; omega), qa2 vc vb hm, bnd2_s, qmm vc vb hm, bnd2_s, if_pos rfl, qa3 vc vb hm, bnd2_s, if_pos rfl, qa4 vc vb hm, bnd2_s, if_pos rfl, qa5 vc vb hm, bnd2_s, if_pos rfl, iI_1]
    exact ih f (m + 1) (by omega) (by omega)
theorem g_areMetals (hk : k ≤ 1000) (vc : VC M a n H L t) (vb : VB k a n H L t) (J : JJ a) (hT : ∀ m, m ≤ 1 → a (2 + m) ≤ 1000000) : ∃ M1, f_L_areMetals M = some (1, M1) ∧ VC M1 a n H L t := by
  have hM := vb.1.1
  have hbb := bC_b hM vb.1.2.1
  unfold BM at hM
  obtain ⟨M1, e4, v1⟩ := q_melt4 vc vb
  refine ⟨M1, ?_, v1⟩
  unfold f_L_areMetals
  rw [qm2 vc vb, bnd2_s, qm0 vc vb, bnd2_s, qm1 vc vb, bnd2_s, if_pos (by rw [iI_add]), e4, bnd2_s, qm2 v1 vb, bnd2_s, if_neg (by rw [iI_lt (by omega) (by omega)]; omega), qm2 v1 vb, bnd2_s, if_neg (by rw [Z20000, iI_lt (by omega) (by omega)]; omega), qc0 v1 vb, bnd2_s, if_neg (by rw [Z12, iI_lt (by omega) (by omega)]; omega)]
  exact l_m61 hk v1 vb J hT 2 FU 0 (by omega) (by unfold FU; omega)
theorem l_f70 (hk : k ≤ 1000) (vc : VC M a n H L t) (vb : VB k a n H L t) {o nb : Nat} (ho : o < (a 53).toNat) (hnb : nb = (a 52).toNat) : ∀ (i fu j : Nat), j + i = nb → i < fu → lp_L_fits_70 fu M (iI o) (iI (lcn (fP a o) nb j)) (iI (lst (fP a o) nb j)) (iI ((nb : Int) - 1 - j)) = some (iI (lcn (fP a o) nb nb), iI (lst (fP a o) nb nb), M) := by
  have hM := vb.1.1
  unfold BM at hM
  have no : ¬ (1 : Int32) = 0 := by decide
  have Bo := vb.1.2.2.2.2.1 o ho
  unfold BO at Bo
  intro i
  induction i with
  | zero =>
    intro fu j hz hf
    obtain ⟨f, rfl⟩ : ∃ f, fu = f + 1 := ⟨fu - 1, by omega⟩
    obtain rfl : j = nb := by omega
    unfold lp_L_fits_70
    rw [if_pos (by rw [Z0, iI_lt (by omega) (by omega)]; omega)]
  | succ i ih =>
    intro fu j hz hf
    obtain ⟨f, rfl⟩ : ∃ f, fu = f + 1 := ⟨fu - 1, by omega⟩
    have ih' := ih f (j + 1) (by omega) (by omega)
    obtain ⟨z, hzz⟩ : ∃ z, z = nb - (j + 1) := ⟨_, rfl⟩
    have ez : ((nb : Int) - 1 - j) = (z : Int) := by omega
    have e1 : iI (z : Int) + -1 = iI ((nb : Int) - 1 - ((j + 1 : Nat) : Int)) := by rw [Zm1, iI_add]; congr 1; omega
    have c0 : ¬ iI (z : Int) < 0 := by rw [Z0, iI_lt (by omega) (by omega)]; omega
    have hb : z < (a 52).toNat := by omega
    obtain ⟨b1, b2, b3, b4, b5, b6, b7, b8, b9⟩ := vb.1.2.2.2.1 z hb
    have q1 : lst (fP a o) nb (j + 1) = if fP a o (nb - (j + 1)) then ((nb - (j + 1) : Nat) : Int) else lst (fP a o) nb j := rfl
    have q2 : lcn (fP a o) nb (j + 1) = lcn (fP a o) nb j + (if fP a o (nb - (j + 1)) then 1 else 0) := rfl
    rw [← hzz] at q1 q2
    have tb := tunR_b (a := a) (b := z) (o := o)
    have d0 : (0 : Int32) = 0 := rfl
    -- where it doesn't fit
    have nof : ¬ fit a z o → (0 : Int32) = (if iI (tunR a z o) = (0 : Int32) then (1 : Int32) else 0) ∧ lp_L_fits_70 f M (iI o) (iI (lcn (fP a o) nb j) + 0) (iI (lst (fP a o) nb j)) (iI (z : Int) + -1) = some (iI (lcn (fP a o) nb nb), iI (lst (fP a o) nb nb), M) := by
      intro c
      have hp : ¬ fP a o z = true := by unfold fP; simp only [decide_eq_true_eq]; exact c
      rw [if_neg hp] at q1 q2
      refine ⟨?_, ?_⟩
      · rw [if_neg (by rw [Z0, iI_inj (by omega) (by omega)]; exact fun q => c (tunR_0.mp q))]
      · rw [e1, show iI (lcn (fP a o) nb j : Int) + 0 = iI (lcn (fP a o) nb (j + 1) : Int) by rw [Z0, iI_add, q2]; congr 1, ← q1, ih']
    rw [ez]
    unfold lp_L_fits_70
    rw [if_neg c0, qb5 vc vb hb, bnd2_s, qo1 vc vb ho, bnd2_s, qb8 vc vb hb, bnd2_s]
    by_cases g0 : a (60 + 8 * z) = 0
    · rw [if_pos (by rw [g0]; rfl), qb4 vc vb hb, bnd2_s, qo0 vc vb ho, bnd2_s]
      by_cases g1 : a (56 + 8 * z) = a (854 + 4 * o)
      · rw [if_pos (by rw [g1]), qo2 vc vb ho, bnd2_s, iI_sub]
        by_cases g2 : a (856 + 4 * o) < a (57 + 8 * z) - a (855 + 4 * o)
        · have h := nof (fun q => by have := q.2.2; omega)
          rw [if_pos (by rw [iI_lt (by omega) (by omega)]; exact g2), if_pos d0, if_pos d0, if_neg no, q_tuneFor hk vc vb hb ho, bnd2_s, if_pos h.1]
          exact h.2
        · rw [if_neg (by rw [iI_lt (by omega) (by omega)]; exact g2), qo2 vc vb ho, bnd2_s, iI_neg]
          by_cases g3 : a (856 + 4 * o) < -(a (57 + 8 * z) - a (855 + 4 * o))
          · have h := nof (fun q => by have := q.2.2; omega)
            rw [if_pos (by rw [iI_lt (by omega) (by omega)]; exact g3), if_pos d0, if_pos d0, if_neg no, q_tuneFor hk vc vb hb ho, bnd2_s, if_pos h.1]
            exact h.2
          · have c : fit a z o := ⟨g0, g1, by omega, by omega⟩
            have hp : fP a o z = true := by unfold fP; exact decide_eq_true c
            rw [if_pos hp] at q1 q2
            rw [if_neg (by rw [iI_lt (by omega) (by omega)]; exact g3), if_neg no, if_neg no, if_neg no, q_tuneFor hk vc vb hb ho, bnd2_s, if_pos (by rw [if_pos (by rw [tunR_0.mpr c]; rfl)]), e1, show iI (lcn (fP a o) nb j : Int) + 1 = iI (lcn (fP a o) nb (j + 1) : Int) by rw [Z1, iI_add, q2]; congr 1, ← q1]
            exact ih'
      · have h := nof (fun q => g1 q.2.1)
        rw [if_neg (by rw [iI_inj (by omega) (by omega)]; exact g1), if_pos d0, if_pos d0, if_neg no, q_tuneFor hk vc vb hb ho, bnd2_s, if_pos h.1]
        exact h.2
    · have h := nof (fun q => g0 q.1)
      rw [if_neg (by rw [Z0, iI_inj (by omega) (by omega)]; exact g0), if_pos d0, if_pos d0, if_neg no, q_tuneFor hk vc vb hb ho, bnd2_s, if_pos h.1]
      exact h.2
theorem l_f24 (hk : k ≤ 1000) (vc : VC M a n H L t) (vb : VB k a n H L t) : ∀ (j fu z : Nat), z + j = (a 53).toNat → j < fu → lp_L_fits_24 fu M (iI (cn (openP a) z)) (iI z) = some (1, M) := by
  have hM := vb.1.1
  unfold BM at hM
  have hO := vb.1.2.2.2.2.2.2
  have no : ¬ (1 : Int32) = 0 := by decide
  intro j
  induction j with
  | zero =>
    intro fu z hz hf
    obtain ⟨f, rfl⟩ : ∃ f, fu = f + 1 := ⟨fu - 1, by omega⟩
    obtain rfl : z = (a 53).toNat := by omega
    have hO' : cn (openP a) (a 53).toNat ≤ 8 := hO
    unfold lp_L_fits_24
    rw [qc5 vc vb, bnd2_s, if_pos (by rw [iI_le (by omega) (by omega)]; omega), if_neg no, qc6 vc vb, bnd2_s, if_pos (show iI (openN a : Int) = iI (cn (openP a) (a 53).toNat : Int) from rfl), if_neg (by rw [Z8, iI_lt (by omega) (by omega)]; omega)]
  | succ j ih =>
    intro fu z hz hf
    obtain ⟨f, rfl⟩ : ∃ f, fu = f + 1 := ⟨fu - 1, by omega⟩
    have ho : z < (a 53).toNat := by omega
    have Bo := vb.1.2.2.2.2.1 z ho
    unfold BO at Bo
    obtain ⟨nb, hnb⟩ : ∃ nb, nb = (a 52).toNat := ⟨_, rfl⟩
    have e70 : lp_L_fits_70 FU M (iI z) 0 (-4) (iI (a 52) - 1) = some (iI (lcn (fP a z) nb nb), iI (lst (fP a z) nb nb), M) := by
      have h := l_f70 hk vc vb ho hnb nb FU 0 (by omega) (by unfold FU; omega)
      rw [show iI (a 52) - 1 = iI ((nb : Int) - 1 - (0 : Nat)) by rw [Z1, iI_sub]; congr 1; omega]
      exact h
    have hl := lcn_cn (P := fP a z) (n := nb) nb (Nat.le_refl _)
    rw [Nat.sub_self, show cn (fP a z) 0 = 0 from rfl, Nat.zero_add] at hl
    have cc : iI (cn (openP a) z : Int) + (if iI (a (857 + 4 * z)) = (0 : Int32) then (1 : Int32) else 0) = iI (cn (openP a) (z + 1) : Int) := by
      by_cases c : a (857 + 4 * z) = 0
      · rw [if_pos (by rw [c]; rfl), cn_s (by unfold openP; rw [c]; rfl), Z1, iI_add]; rfl
      · rw [if_neg (by rw [Z0, iI_inj (by omega) (by omega)]; exact c), cn_f (by unfold openP; simpa using c), Z0, iI_add, Int.add_zero]
    unfold lp_L_fits_24
    rw [qc5 vc vb, bnd2_s, if_neg (by rw [iI_le (by omega) (by omega)]; omega), if_neg no, qo3 vc vb ho, bnd2_s, qc1 vc vb, bnd2_s, e70, bnd3_s, if_neg no, qo4 vc vb ho, bnd2_s, ← hnb, if_pos rfl, qo5 vc vb ho, bnd2_s, ← hnb, if_pos (by rw [hl]), cc, iI_1]
    exact ih f (z + 1) (by omega) (by omega)
theorem g_fits (hk : k ≤ 1000) (vc : VC M a n H L t) (vb : VB k a n H L t) (J : JJ a) (hT : ∀ m, m ≤ 1 → a (2 + m) ≤ 1000000) : ∃ M1, f_L_fits M = some (1, M1) ∧ VC M1 a n H L t := by
  have hM := vb.1.1
  unfold BM at hM
  have no : ¬ (1 : Int32) = 0 := by decide
  obtain ⟨M1, e1, v1⟩ := g_areMetals hk vc vb J hT
  refine ⟨M1, ?_, v1⟩
  unfold f_L_fits
  rw [g_areBells vc vb J, bnd2_s, if_neg no, e1, bnd2_s, if_neg no]
  exact l_f24 hk v1 vb (a 53).toNat FU 0 (by omega) (by unfold FU; omega)
end GFT
