/-! THE LAW'S METHODS: acts, the rest. -/
section GA2
variable {k : Int} {M : MM} {a : Nat → Int} {n : Nat} {H : Nat → Nat → Int} {L : Nat} {t : Nat → Int}
theorem a_803 (hk : k ≤ 990) (vc : VC M a n H L t) (vb : VB k a n H L t) (J : JJ a) (v w : Int32) {kk : Int32} (hkk : KB a kk) : ∀ fu, 0 < fu → AR k a L t (lp_L_acts_803 fu M v w (iI (a 52)) kk) := by
  intro fu hf
  obtain ⟨f, rfl⟩ : ∃ f, fu = f + 1 := ⟨fu - 1, by omega⟩
  have hM := vb.1.1
  have hS := vb.1.2.1
  unfold BM at hM
  unfold BS at hS
  have no : ¬ (1 : Int32) = 0 := by decide
  have d0 : (0 : Int32) = 0 := rfl
  unfold lp_L_acts_803
  rw [qc5 vc vb, bnd2_s]
  by_cases h5 : a 53 = 0
  · have y : iI (a 53) = (0 : Int32) := by rw [h5]; rfl
    have y2 : iI (a 53) ≤ (0 : Int32) := by rw [h5]; decide
    rw [if_pos y]
    rcases hkk with ⟨h0, rfl⟩ | ⟨h0, j, hj, rfl⟩
    · have z : iI (a 52) = (0 : Int32) := by rw [h0]; rfl
      have z2 : iI (a 52) ≤ (0 : Int32) := by rw [h0]; decide
      have e : f_X10_send M 0 0 = some (-1, M) := s_send_no vc vb (X := 0) (Y := 0) (by omega) (by omega) (Or.inl (by omega))
      rw [if_pos z2, e, bnd2_s, if_pos z, if_pos rfl]
      exact AR.same vc vb J
    · have z : ¬ iI (a 52) = (0 : Int32) := by rw [Z0, iI_inj (by omega) (by omega)]; exact h0
      have z2 : ¬ iI (a 52) ≤ (0 : Int32) := by rw [Z0, iI_le (by omega) (by omega)]; omega
      have e : f_X10_send M (iI (j : Int)) 0 = some (-1, M) := s_send_no vc vb (X := (j : Int)) (Y := 0) (by omega) (by omega) (Or.inr (by omega))
      rw [if_neg z2, if_pos y2, e, bnd2_s, if_neg z, if_pos y, if_pos rfl]
      exact AR.same vc vb J
  · have y : ¬ iI (a 53) = (0 : Int32) := by rw [Z0, iI_inj (by omega) (by omega)]; exact h5
    have y2 : ¬ iI (a 53) ≤ (0 : Int32) := by rw [Z0, iI_le (by omega) (by omega)]; omega
    obtain ⟨o, ho, eo⟩ := g_lowA w (d := a 53) (by omega) (by omega)
    rw [if_neg y, eo, bnd2_s]
    rcases hkk with ⟨h0, rfl⟩ | ⟨h0, j, hj, rfl⟩
    · have z : iI (a 52) = (0 : Int32) := by rw [h0]; rfl
      have z2 : iI (a 52) ≤ (0 : Int32) := by rw [h0]; decide
      have e : f_X10_send M 0 (iI (o : Int)) = some (-1, M) := s_send_no vc vb (X := 0) (Y := (o : Int)) (by omega) (by omega) (Or.inl (by omega))
      rw [if_pos z2, e, bnd2_s, if_pos z, if_pos rfl]
      exact AR.same vc vb J
    · have z : ¬ iI (a 52) = (0 : Int32) := by rw [Z0, iI_inj (by omega) (by omega)]; exact h0
      have z2 : ¬ iI (a 52) ≤ (0 : Int32) := by rw [Z0, iI_le (by omega) (by omega)]; omega
      obtain ⟨b1, b2, b3, b4, b5, b6, b7, b8, b9⟩ := vb.1.2.2.2.1 j hj
      have Bo := vb.1.2.2.2.2.1 o ho
      unfold BO at Bo
      have tb := tunR_b (a := a) (b := j) (o := o)
      rw [if_neg z2, if_neg y2, q_tuneFor (by omega) vc vb hj ho, bnd2_s]
      by_cases c1 : fit a j o
      · have c0 : a (60 + 8 * j) = 0 := c1.1
        rw [if_pos (by rw [tunR_0.mpr c1]; rfl), qo3 vc vb ho, bnd2_s]
        by_cases c2 : a (857 + 4 * o) = 0
        · rw [if_pos (by rw [c2]; rfl), qb2 vc vb hj (by omega), bnd2_s, qc26 vc vb, bnd2_s]
          by_cases c3 : a 51 < a (54 + 8 * j) + a (55 + 8 * j)
          · rw [if_pos (by rw [iI_lt (by omega) (by omega)]; exact c3), s_send_not vc vb hj ho (fun q => by have := q.2.2; omega), bnd2_s, if_neg z, if_neg y, if_pos d0, if_pos rfl]
            exact AR.same vc vb J
          · obtain ⟨M1, e1, p⟩ := s_send vc vb hj ho ⟨c2, c1, by omega⟩
            have sn : ∀ q, q ≠ 60 + 8 * j → q ≠ 61 + 8 * j → q ≠ 857 + 4 * o → senA a j o q = a q := fun q q1 q2 q3 => by unfold senA; rw [uI_n q3, uI_n q2, uI_n q1]
            have s60 : senA a j o (60 + 8 * j) = 2 := by unfold senA; rw [uI_n (by omega), uI_n (by omega), uI_s]
            have s61 : senA a j o (61 + 8 * j) = (o : Int) := by unfold senA; rw [uI_n (by omega), uI_s]
            have hj' : j < (senA a j o 52).toNat := by rw [sn 52 (by omega) (by omega) (by omega)]; exact hj
            have r2 := qb2 p.1 p.2 hj' (by rw [s60]; omega)
            have r9 := qb9 p.1 p.2 hj'
            rw [sn _ (by omega) (by omega) (by omega), sn _ (by omega) (by omega) (by omega)] at r2
            rw [s61] at r9
            rw [if_neg (by rw [iI_lt (by omega) (by omega)]; exact c3), e1, bnd2_s, if_neg z, if_neg y, if_neg no, r2, bnd2_s, if_pos rfl, r9, bnd2_s, if_pos rfl]
            refine AR.of p (J_send J vb.1 hj ho c2 c1) ?_ ?_ ?_
            · rw [sn 2 (by omega) (by omega) (by omega)]; omega
            · rw [sn 3 (by omega) (by omega) (by omega)]; omega
            · rw [sn 52 (by omega) (by omega) (by omega)]; omega
        · rw [if_neg (by rw [Z0, iI_inj (by omega) (by omega)]; exact c2), s_send_not vc vb hj ho (fun q => c2 q.1), bnd2_s, if_neg z, if_neg y, if_pos d0, if_pos rfl]
          exact AR.same vc vb J
      · rw [if_neg (by rw [Z0, iI_inj (by omega) (by omega)]; exact fun q => c1 (tunR_0.mp q)), s_send_not vc vb hj ho (fun q => c1 q.2.1), bnd2_s, if_neg z, if_neg y, if_pos d0, if_pos rfl]
        exact AR.same vc vb J
theorem scB_67 {a : Nat → Int} {j m : Nat} (hj : j < m) (hn : m ≤ 12) : scB a j m 6 + scB a j m 7 = a 6 + a 7 + (scA a j (9 + 3 * j) + scA a j (10 + 3 * j)) := by
  have e6 : scB a j m 6 = a 6 + scA a j (9 + 3 * j) := by
    rw [scB_lo (by omega) hn, if_neg (by omega), if_pos rfl]
  have e7 : scB a j m 7 = a 7 + scA a j (10 + 3 * j) := by
    rw [scB_lo (by omega) hn, if_neg (by omega), if_neg (by omega), if_pos rfl]
  rw [e6, e7]
  omega
theorem a_966 (hk : k ≤ 990) (vc : VC M a n H L t) (vb : VB k a n H L t) (J : JJ a) (v w b kk : Int32) : ∀ fu, 0 < fu → AR k a L t (lp_L_acts_966 fu M v w b kk) := by
  intro fu hf
  obtain ⟨f, rfl⟩ : ∃ f, fu = f + 1 := ⟨fu - 1, by omega⟩
  have hM := vb.1.1
  have hS := vb.1.2.1
  have d0 : (0 : Int32) = 0 := rfl
  have no : ¬ (1 : Int32) = 0 := by decide
  unfold lp_L_acts_966
  rw [qc0 vc vb, bnd2_s]
  by_cases h0 : a 8 = 0
  · have z : iI (a 8) = (0 : Int32) := by rw [h0]; rfl
    have z2 : iI (a 8) ≤ (0 : Int32) := by rw [h0]; decide
    have e : f_X10_scrap M 0 = some (-1, M) := s_scrap_no vc vb (X := 0) (by omega) (by omega)
    rw [if_pos z, if_pos z, if_pos z2, e, bnd2_s, if_pos z, if_pos rfl]
    exact AR.same vc vb J
  · have h12 : 0 ≤ a 8 ∧ a 8 ≤ 12 := by unfold BM at hM; omega
    have z : ¬ iI (a 8) = (0 : Int32) := by rw [Z0, iI_inj (by omega) (by omega)]; exact h0
    have z2 : ¬ iI (a 8) ≤ (0 : Int32) := by rw [Z0, iI_le (by omega) (by omega)]; omega
    obtain ⟨j, hj, ej⟩ := g_lowA v (d := a 8) (by omega) (by omega)
    have hl := vb.1.2.2.1 j (by omega)
    have hb := scA_b hl hS
    have s0 := scA_s (a := a) (j := j) (m := 0) (by omega)
    have s1 := scA_s (a := a) (j := j) (m := 1) (by omega)
    have hl' := hl
    unfold BL at hl'
    unfold BM at hM
    rw [if_neg z, ej, bnd2_s, if_neg z, qm2 vc vb, bnd2_s, ql2 (by omega) vc vb hj, bnd2_s, if_neg z2, ql4 (by omega) vc vb hj, bnd2_s]
    obtain ⟨m, hm⟩ : ∃ m : Nat, a 8 = m := ⟨(a 8).toNat, by omega⟩
    by_cases cap : a 6 + a 7 + (a (9 + 3 * j) + a (10 + 3 * j)) ≤ 20000
    · obtain ⟨M1, e1, p⟩ := s_scrap (by omega) vc vb hm (show j < m by omega) cap
      have e67 := scB_67 (a := a) (show j < m by omega) (show m ≤ 12 by omega)
      have r2 := qm2 p.1 p.2
      have r0 := qc0 p.1 p.2
      have e8 : scB a j m 8 = ((m - 1 : Nat) : Int) := by
        rw [scB_lo (by omega) (by omega), if_pos rfl]; omega
      rw [e8] at r0
      have tail : AR k a L t (some (1, M1)) := by
        have gn : ∀ q, q < 4 → scB a j m q = a q := fun q hq => by
          rw [scB_lo (by omega) (by omega), if_neg (by omega), if_neg (by omega), if_neg (by omega), if_neg (by omega), scA_n (by omega)]
        refine AR.of p (J_scrap J vb.1 hm (by omega)) ?_ ?_ ?_
        · rw [gn 2 (by omega)]; omega
        · rw [gn 3 (by omega)]; omega
        · rw [scB_hi (by omega) (by omega) (by omega)]; omega
      by_cases c4 : a (11 + 3 * j) = 1
      · rw [if_pos (by rw [c4]; rfl), e1, bnd2_s, if_neg z, iI_add, if_pos (by rw [Z20000, iI_le (by omega) (by omega)]; exact cap), r2, bnd2_s, if_pos rfl, if_neg no, if_neg (by rw [iI_lt (by omega) (by omega)]; omega), r0, bnd2_s, if_pos (by rw [hm, Z1, iI_sub]; congr 1; omega)]
        exact tail
      · have eA : ∀ q, scA a j q = a q := fun q => by unfold scA; rw [if_neg c4]
        rw [eA, eA] at e67
        rw [if_neg (by rw [Z1, iI_inj (by omega) (by omega)]; exact c4), e1, bnd2_s, if_neg z, iI_add, if_pos (by rw [Z20000, iI_le (by omega) (by omega)]; exact cap), r2, bnd2_s, if_pos rfl, if_pos d0, if_pos (by rw [e67]), r0, bnd2_s, if_pos (by rw [hm, Z1, iI_sub]; congr 1; omega)]
        exact tail
    · have e1 := s_scrap_hi (by omega) vc vb hj cap
      by_cases c4 : a (11 + 3 * j) = 1
      · rw [if_pos (by rw [c4]; rfl), e1, bnd2_s, if_neg z, iI_add, if_neg (by rw [Z20000, iI_le (by omega) (by omega)]; exact cap), if_pos rfl]
        exact AR.same vc vb J
      · rw [if_neg (by rw [Z1, iI_inj (by omega) (by omega)]; exact c4), e1, bnd2_s, if_neg z, iI_add, if_neg (by rw [Z20000, iI_le (by omega) (by omega)]; exact cap), if_pos rfl]
        exact AR.same vc vb J
/-- a setting, behind what came before -/
theorem set_tail {k0 : Int} {a0 : Nat → Int} (vc : VC M a n H L t) (vb : VB k a n H L t) (J : JJ a) (hk : k ≤ k0 + 1) (e2 : a 2 ≤ a0 2 + 4000) (e3 : a 3 ≤ a0 3 + 4000) (e52 : a 52 ≤ a0 52 + 1) (v w : Int32) : AR k0 a0 L t (bnd2 (f_L_low M v 3) fun r Mw => (bnd2 (f_L_low Mw w 50) fun r2 Mx => (bnd2 (f_X10_set Mx (4 + r) (1 + r2)) fun r3 My => (if (r3 : Int32) < 0 then none else some (1, My))))) := by
  have hM := vb.1.1
  have hS := vb.1.2.1
  unfold BM at hM
  unfold BS at hS
  obtain ⟨j, hj, ej⟩ := g_lowA v (d := 3) (by omega) (by omega)
  obtain ⟨y, hy, ey⟩ := g_lowA w (d := 50) (by omega) (by omega)
  rw [← Z3] at ej
  rw [show iI 50 = (50 : Int32) from rfl] at ey
  have lim : sLo (4 + j) ≤ 1 + (y : Int) ∧ 1 + (y : Int) ≤ sHi (4 + j) := by
    have h : j = 0 ∨ j = 1 ∨ j = 2 := by omega
    rcases h with rfl | rfl | rfl
    · show (0 : Int) ≤ _ ∧ _ ≤ (300 : Int); omega
    · show (1 : Int) ≤ _ ∧ _ ≤ (50 : Int); omega
    · show (1 : Int) ≤ _ ∧ _ ≤ (20000 : Int); omega
  obtain ⟨M1, e1, p⟩ := s_set vc vb (j := 4 + j) (by omega) (Y := 1 + (y : Int)) lim
  have hold : 0 ≤ a (45 + (4 + j)) ∧ a (45 + (4 + j)) ≤ 20000 := by
    have h : j = 0 ∨ j = 1 ∨ j = 2 := by omega
    rcases h with rfl | rfl | rfl
    · show 0 ≤ a 49 ∧ a 49 ≤ 20000; omega
    · show 0 ≤ a 50 ∧ a 50 ≤ 20000; omega
    · show 0 ≤ a 51 ∧ a 51 ≤ 20000; omega
  have e4 : (4 : Int32) + iI (j : Int) = iI ((4 + j : Nat) : Int) := by rw [Z4, iI_add]; rfl
  rw [ej, bnd2_s, ey, bnd2_s, e4, one_y, e1, bnd2_s, if_neg (by rw [Z0, iI_lt (by omega) (by omega)]; omega)]
  exact ⟨M1, _, _, _, rfl, p.1, p.2.up (by omega), J_set J (by omega) (by omega) (by omega) _, by rw [uI_n (by omega)]; exact e2, by rw [uI_n (by omega)]; exact e3, by rw [uI_n (by omega)]; exact e52⟩
theorem a_1137 (vc : VC M a n H L t) (vb : VB k a n H L t) (J : JJ a) (v w b kk : Int32) : ∀ fu, 0 < fu → AR k a L t (lp_L_acts_1137 fu M v w b kk) := by
  intro fu hf
  obtain ⟨f, rfl⟩ : ∃ f, fu = f + 1 := ⟨fu - 1, by omega⟩
  have hM := vb.1.1
  have hN := vb.1.2.2.2.2.2.2
  unfold BM at hM
  obtain ⟨q, hq, eq⟩ := g_lowA v (d := 2) (by omega) (by omega)
  rw [← Z2] at eq
  have same := set_tail (k0 := k) vc vb J (by omega) (show a 2 ≤ a 2 + 4000 by omega) (show a 3 ≤ a 3 + 4000 by omega) (show a 52 ≤ a 52 + 1 by omega) v w
  unfold lp_L_acts_1137
  rw [qc5 vc vb, bnd2_s]
  by_cases h5 : a 53 = 0
  · have y : iI (a 53) = (0 : Int32) := by rw [h5]; rfl
    have e : f_X10_cancel M 0 = some (-1, M) := s_cancel_no vc vb (X := 0) (by omega) (by omega)
    rw [if_pos y, if_pos y, qc6 vc vb, bnd2_s, eq, bnd2_s]
    by_cases c : q = 0
    · rw [if_pos (by rw [c]; rfl), e, bnd2_s, if_pos y, if_pos rfl]
      exact same
    · rw [if_neg (by rw [Z0, iI_inj (by omega) (by omega)]; omega), if_pos y, if_pos y, if_pos rfl]
      exact same
  · have y : ¬ iI (a 53) = (0 : Int32) := by rw [Z0, iI_inj (by omega) (by omega)]; exact h5
    obtain ⟨o, ho, eo⟩ := g_lowA w (d := a 53) (by omega) (by omega)
    have Bo := vb.1.2.2.2.2.1 o ho
    unfold BO at Bo
    rw [if_neg y, eo, bnd2_s, if_neg y, qo3 vc vb ho, bnd2_s, qc6 vc vb, bnd2_s, eq, bnd2_s]
    by_cases c : q = 0
    · rw [if_pos (by rw [c]; rfl)]
      by_cases c2 : a (857 + 4 * o) = 0
      · obtain ⟨M1, e1, p⟩ := s_cancel vc vb ho c2
        have ec : openN a = cn (orP (uI a (857 + 4 * o) 2) 0) (a 53).toNat + 1 := by
          refine cn_up (P := orP (uI a (857 + 4 * o) 2) 0) (Q := openP a) (p := o) _ ho (fun i hi hp => ?_) ?_ ?_
          · unfold openP orP; rw [uI_n (by omega)]
          · unfold orP; rw [uI_s]; rfl
          · unfold openP; simpa using c2
        have g : ∀ q, q ≠ 857 + 4 * o → uI a (857 + 4 * o) 2 q = a q := fun q hq => uI_n hq
        rw [e1, bnd2_s, if_neg y, if_pos (by rw [c2]; decide), if_pos (by rw [Z1, iI_sub]; congr 1; omega)]
        exact set_tail (k0 := k) p.1 p.2 (J_cancel J (by omega) (by omega) c2) (by omega) (by rw [g 2 (by omega)]; omega) (by rw [g 3 (by omega)]; omega) (by rw [g 52 (by omega)]; omega) v w
      · rw [s_cancel_not vc vb ho c2, bnd2_s, if_neg y, if_neg (by rw [Z0, iI_le (by omega) (by omega)]; omega), if_pos rfl]
        exact same
    · rw [if_neg (by rw [Z0, iI_inj (by omega) (by omega)]; omega), if_neg y]
      by_cases c2 : a (857 + 4 * o) ≤ 0
      · have z : iI (a (857 + 4 * o)) ≤ (0 : Int32) := by rw [Z0, iI_le (by omega) (by omega)]; exact c2
        rw [if_pos z, if_neg y, if_pos z, if_pos rfl]
        exact same
      · have z : ¬ iI (a (857 + 4 * o)) ≤ (0 : Int32) := by rw [Z0, iI_le (by omega) (by omega)]; exact c2
        rw [if_neg z, if_neg y, if_neg z, if_pos rfl]
        exact same
theorem g_acts (hk : k ≤ 990) (vc : VC M a n H L t) (vb : VB k a n H L t) (J : JJ a) (hT : ∀ m, m ≤ 1 → a (2 + m) ≤ 500000) (h90 : a 52 ≤ 90) (x v w : Int32) : AR k a L t (f_L_acts M x v w) := by
  have hM := vb.1.1
  unfold BM at hM
  have fu0 : 0 < FU := by unfold FU; omega
  unfold f_L_acts
  rw [qc1 vc vb, bnd2_s]
  have all : ∀ kk, KB a kk → AR k a L t (if (x : Int32) = 0 then (lp_L_acts_88 FU M v w (iI (a 52)) kk) else (if (x : Int32) = 1 then (lp_L_acts_172 FU M v w (iI (a 52)) kk) else (if (x : Int32) = 2 then (lp_L_acts_276 FU M v w (iI (a 52)) kk) else (if (x : Int32) = 3 then (lp_L_acts_276 FU M v w (iI (a 52)) kk) else (if (x : Int32) = 4 then (lp_L_acts_276 FU M v w (iI (a 52)) kk) else (if (x : Int32) = 5 then (lp_L_acts_417 FU M v w (iI (a 52)) kk) else (if (x : Int32) = 6 then (lp_L_acts_417 FU M v w (iI (a 52)) kk) else (if (x : Int32) = 7 then (lp_L_acts_578 FU M v w (iI (a 52)) kk) else (if (x : Int32) = 8 then (lp_L_acts_666 FU M v w (iI (a 52)) kk) else (if (x : Int32) = 9 then (lp_L_acts_666 FU M v w (iI (a 52)) kk) else (if (x : Int32) = 10 then (lp_L_acts_803 FU M v w (iI (a 52)) kk) else (if (x : Int32) = 11 then (lp_L_acts_966 FU M v w (iI (a 52)) kk) else (lp_L_acts_1137 FU M v w (iI (a 52)) kk))))))))))))) := by
    intro kk hkk
    by_cases c0 : x = 0
    · rw [if_pos c0]; exact a_88 vc vb J hT v w _ kk FU fu0
    rw [if_neg c0]
    by_cases c1 : x = 1
    · rw [if_pos c1]; exact a_172 vc vb J v w _ kk FU fu0
    rw [if_neg c1]
    by_cases c2 : x = 2
    · rw [if_pos c2]; exact a_276 vc vb J h90 v w kk FU fu0
    rw [if_neg c2]
    by_cases c3 : x = 3
    · rw [if_pos c3]; exact a_276 vc vb J h90 v w kk FU fu0
    rw [if_neg c3]
    by_cases c4 : x = 4
    · rw [if_pos c4]; exact a_276 vc vb J h90 v w kk FU fu0
    rw [if_neg c4]
    by_cases c5 : x = 5
    · rw [if_pos c5]; exact a_417 hk vc vb J v w hkk FU fu0
    rw [if_neg c5]
    by_cases c6 : x = 6
    · rw [if_pos c6]; exact a_417 hk vc vb J v w hkk FU fu0
    rw [if_neg c6]
    by_cases c7 : x = 7
    · rw [if_pos c7]; exact a_578 vc vb J v w hkk FU fu0
    rw [if_neg c7]
    by_cases c8 : x = 8
    · rw [if_pos c8]; exact a_666 vc vb J v w hkk FU fu0
    rw [if_neg c8]
    by_cases c9 : x = 9
    · rw [if_pos c9]; exact a_666 vc vb J v w hkk FU fu0
    rw [if_neg c9]
    by_cases c10 : x = 10
    · rw [if_pos c10]; exact a_803 hk vc vb J v w hkk FU fu0
    rw [if_neg c10]
    by_cases c11 : x = 11
    · rw [if_pos c11]; exact a_966 hk vc vb J v w _ kk FU fu0
    rw [if_neg c11]
    exact a_1137 vc vb J v w _ kk FU fu0
  by_cases h0 : a 52 = 0
  · rw [if_pos (by rw [h0]; rfl)]
    exact all 0 (Or.inl ⟨h0, rfl⟩)
  · obtain ⟨j, hj, ej⟩ := g_lowA v (d := a 52) (by omega) (by omega)
    rw [if_neg (by rw [Z0, iI_inj (by omega) (by omega)]; exact h0), ej, bnd2_s]
    exact all _ (Or.inr ⟨h0, j, hj, rfl⟩)
end GA2
