/-! THE LAW'S METHODS: acts. -/
theorem g_lowA (x : Int32) {d : Int} (hd : 0 < d) (hd2 : d < 2147483648) : ∃ j : Nat, j < d.toNat ∧ ∀ M, f_L_low M x (iI d) = some (iI (j : Int), M) := by
  obtain ⟨p, hp, e⟩ := and_max x
  have hm := Int.emod_nonneg (p : Int) (show d ≠ 0 by omega)
  have hm2 := Int.emod_lt_of_pos (p : Int) hd
  refine ⟨((p : Int) % d).toNat, by omega, fun M => ?_⟩
  unfold f_L_low
  rw [if_neg (by rw [Z0, iI_inj (by omega) (by omega)]; omega), e, iI_div (by omega) (by omega) (by omega) (by omega), iI_mul, iI_sub, Int.mul_comm, ← Int.emod_def, Int.toNat_of_nonneg hm]
def AR (k : Int) (a : Nat → Int) (L : Nat) (t : Nat → Int) (o : Option (Int32 × MM)) : Prop := ∃ M1 a' n' H', o = some (1, M1) ∧ VC M1 a' n' H' L t ∧ VB (k + 2) a' n' H' L t ∧ JJ a' ∧ a' 2 ≤ a 2 + 4000 ∧ a' 3 ≤ a 3 + 4000 ∧ a' 52 ≤ a 52 + 1
section GAC
variable {k : Int} {M : MM} {a : Nat → Int} {n : Nat} {H : Nat → Nat → Int} {L : Nat} {t : Nat → Int}
theorem AR.same (vc : VC M a n H L t) (vb : VB k a n H L t) (J : JJ a) : AR k a L t (some (1, M)) :=
  ⟨M, a, n, H, rfl, vc, vb.up (by omega), J, by omega, by omega, by omega⟩
theorem AR.of {a' : Nat → Int} (p : PU k M a a' n H L t) (J : JJ a') (e2 : a' 2 ≤ a 2 + 4000) (e3 : a' 3 ≤ a 3 + 4000) (e52 : a' 52 ≤ a 52 + 1) : AR k a L t (some (1, M)) :=
  ⟨M, a', _, _, rfl, p.1, p.2.up (by omega), J, e2, e3, e52⟩
theorem one_y (y : Nat) : (1 : Int32) + iI (y : Int) = iI (1 + (y : Int)) := by rw [Z1, iI_add]
/-- the metal that is drawn -/
theorem met_d (j : Nat) (hj : j < 4) : ∃ (m : Nat) (d : Int), m ≤ 1 ∧ (if iI (j : Int) = (0 : Int32) then (1 : Int32) else 0) = iI (m : Int) ∧ (if iI (m : Int) = (1 : Int32) then (900 : Int32) else 4000) = iI d ∧ 0 < d ∧ d ≤ 4000 := by
  by_cases c : j = 0
  · subst c
    exact ⟨1, 900, by omega, rfl, rfl, by omega, by omega⟩
  · refine ⟨0, 4000, by omega, ?_, rfl, by omega, by omega⟩
    rw [if_neg (by rw [Z0, iI_inj (by omega) (by omega)]; omega)]; rfl
theorem a_88 (vc : VC M a n H L t) (vb : VB k a n H L t) (J : JJ a) (hT : ∀ m, m ≤ 1 → a (2 + m) ≤ 500000) (v w b kk : Int32) : ∀ fu, 0 < fu → AR k a L t (lp_L_acts_88 fu M v w b kk) := by
  intro fu hf
  obtain ⟨f, rfl⟩ : ∃ f, fu = f + 1 := ⟨fu - 1, by omega⟩
  have hM := vb.1.1
  unfold BM at hM
  obtain ⟨j, hj, ej⟩ := g_lowA v (d := 4) (by omega) (by omega)
  obtain ⟨m, d, hm, em, ed, d0, d1⟩ := met_d j (by omega)
  obtain ⟨y, hy, ey⟩ := g_lowA w (d := d) d0 (by omega)
  rw [← Z4] at ej
  have hT1 := hT m hm
  have hb := acc_b vb J hm
  have hJ := J.1 m hm
  unfold JM at hJ
  obtain ⟨M1, e1, p⟩ := s_buy vc vb hm (Y := 1 + (y : Int)) (by omega) (by omega)
  have q := qa1 p.1 p.2 hm
  have q2 : buyA a m (1 + (y : Int)) m = a m + (1 + (y : Int)) := by unfold buyA; rw [uI_n (by omega), uI_s]
  rw [q2] at q
  unfold lp_L_acts_88
  rw [ej, bnd2_s, em, ed, ey, bnd2_s, qa1 vc vb hm, bnd2_s, one_y, e1, bnd2_s, iI_add, if_pos rfl, q, bnd2_s, if_pos rfl]
  have hm' : m = 0 ∨ m = 1 := by omega
  refine AR.of p (J_buy J (by omega) (by omega) hm _) ?_ ?_ ?_
  · rcases hm' with rfl | rfl <;> (simp [buyA, uI]; try omega)
  · rcases hm' with rfl | rfl <;> (simp [buyA, uI]; try omega)
  · unfold buyA; rw [uI_n (by omega), uI_n (by omega)]; omega
theorem a_172 (vc : VC M a n H L t) (vb : VB k a n H L t) (J : JJ a) (v w b kk : Int32) : ∀ fu, 0 < fu → AR k a L t (lp_L_acts_172 fu M v w b kk) := by
  intro fu hf
  obtain ⟨f, rfl⟩ : ∃ f, fu = f + 1 := ⟨fu - 1, by omega⟩
  have hM := vb.1.1
  unfold BM at hM
  obtain ⟨j, hj, ej⟩ := g_lowA v (d := 4) (by omega) (by omega)
  obtain ⟨m, d, hm, em, ed, d0, d1⟩ := met_d j (by omega)
  obtain ⟨y, hy, ey⟩ := g_lowA w (d := d) d0 (by omega)
  rw [← Z4] at ej
  have hm' : m = 0 ∨ m = 1 := by omega
  have am : 0 ≤ a m ∧ a m ≤ 1000000 := by rcases hm' with rfl | rfl <;> omega
  unfold lp_L_acts_172
  rw [ej, bnd2_s, em, ed, ey, bnd2_s, qm2 vc vb, bnd2_s, qa1 vc vb hm, bnd2_s, one_y]
  by_cases c1 : 1 + (y : Int) ≤ a m
  · by_cases c2 : a 6 + a 7 + (1 + (y : Int)) ≤ 20000
    · obtain ⟨M1, e1, p⟩ := s_charge vc vb hm (Y := 1 + (y : Int)) (by omega) c1 c2
      rw [e1, bnd2_s, if_pos (by rw [iI_le (by omega) (by omega)]; exact c1), iI_add, if_pos (by rw [Z20000, iI_le (by omega) (by omega)]; exact c2), if_pos rfl]
      refine AR.of p (J_charge J (by omega) (by omega) hm _) ?_ ?_ ?_
      · unfold chaA; rw [uI_n (by omega), uI_n (by omega)]; omega
      · unfold chaA; rw [uI_n (by omega), uI_n (by omega)]; omega
      · unfold chaA; rw [uI_n (by omega), uI_n (by omega)]; omega
    · rw [s_charge_hi vc vb hm (Y := 1 + (y : Int)) (by omega) c1 c2, bnd2_s, if_pos (by rw [iI_le (by omega) (by omega)]; exact c1), iI_add, if_neg (by rw [Z20000, iI_le (by omega) (by omega)]; exact c2), if_pos rfl]
      exact AR.same vc vb J
  · rw [s_charge_lo vc vb hm (Y := 1 + (y : Int)) (by omega) (by omega), bnd2_s, if_neg (by rw [iI_le (by omega) (by omega)]; exact c1), if_pos rfl]
    exact AR.same vc vb J
theorem pouA_4 {a : Nat → Int} {b : Nat} {x y : Int} : pouA a b x y (56 + 8 * b) = x := by
  unfold pouA poF poE
  rw [uI_n (by omega), uI_n (by omega), uI_n (by omega), uI_n (by omega), uI_n (by omega), uI_n (by omega), uI_s]
theorem pouA_6 {a : Nat → Int} {b : Nat} {x y : Int} : pouA a b x y (60 + 8 * b) = if a 47 ≤ albA a y ∧ albA a y ≤ a 48 then 0 else 1 := by
  unfold pouA poF poE
  rw [uI_n (by omega), uI_n (by omega), uI_s]
theorem pouA_w {a : Nat → Int} {b : Nat} {x y : Int} (h8 : 0 ≤ a 8 ∧ a 8 ≤ 12) : pouA a b x y (54 + 8 * b) + pouA a b x y (55 + 8 * b) = y := by
  unfold pouA poF poE
  rw [uI_n (by omega), uI_n (by omega), uI_n (by omega), uI_n (by omega), uI_n (by omega), uI_n (by omega), uI_n (by omega), poD_0 h8, uI_n (by omega), uI_n (by omega), uI_n (by omega), uI_n (by omega), uI_n (by omega), uI_n (by omega), uI_n (by omega), poD_1 h8]
  omega
theorem a_276 (vc : VC M a n H L t) (vb : VB k a n H L t) (J : JJ a) (h99 : a 52 ≤ 90) (v w kk : Int32) : ∀ fu, 0 < fu → AR k a L t (lp_L_acts_276 fu M v w (iI (a 52)) kk) := by
  intro fu hf
  obtain ⟨f, rfl⟩ : ∃ f, fu = f + 1 := ⟨fu - 1, by omega⟩
  have hM := vb.1.1
  have hbb := bC_b hM vb.1.2.1
  have hS := vb.1.2.1
  unfold BM at hM
  unfold BS at hS
  obtain ⟨y, hy, ey⟩ := g_lowA w (d := 700) (by omega) (by omega)
  obtain ⟨x, hx, ex⟩ := g_lowA v (d := 4) (by omega) (by omega)
  rw [show iI 700 = (700 : Int32) from rfl] at ey
  rw [← Z4] at ex
  have hN := vb.1.2.2.2.2.2.1
  unfold lp_L_acts_276
  rw [ey, bnd2_s, qc24 vc vb, bnd2_s, ex, bnd2_s, one_y]
  have hs1 := sh_nn (p := 1 + (y : Int)) (s := a 49) (by omega) (by omega)
  have hs2 := sh_le (p := 1 + (y : Int)) (s := a 49) (by omega) (by omega) (by omega)
  have hprod : 0 ≤ (1 + (y : Int)) * a 49 := Int.mul_nonneg (by omega) (by omega)
  have hprod2 : (1 + (y : Int)) * a 49 ≤ 700 * 300 := Int.mul_le_mul (by omega) (by omega) (by omega) (by omega)
  have esh : iI (1 + (y : Int)) + ((iI (1 + (y : Int))) * (iI (a 49)) + 999) / 1000 = iI (1 + (y : Int) + sh (1 + (y : Int)) (a 49)) := by
    rw [iI_mul, Z999, iI_add, Z1000, iI_div (by omega) (by omega) (by omega) (by omega), iI_add]
    rfl
  rcases s_pour vc vb (X := (x : Int)) (Y := 1 + (y : Int)) (by omega) (by omega) with ⟨q, M1, e1, v1⟩ | ⟨q, q2, M1, e1, v1⟩ | ⟨q, q2, q3, M1, e1, p⟩
  · obtain ⟨M2, e2, v2⟩ := q_melt4 v1 vb
    rw [e1, bnd2_s, if_neg (by decide), if_neg (by decide), if_pos rfl, e2, bnd2_s, esh, if_neg (by rw [iI_le (by omega) (by omega)]; omega)]
    exact AR.same v2 vb J
  · have h12 : hereN a = 12 := by
      rcases q2 with q2 | q2
      · exact q2
      · omega
    rw [e1, bnd2_s, if_neg (by decide), if_pos rfl, qc2 v1 vb, bnd2_s, if_pos (by rw [h12]; rfl)]
    exact AR.same v1 vb J
  · obtain ⟨nb, hnb⟩ : ∃ nb : Nat, a 52 = nb := ⟨(a 52).toNat, by omega⟩
    have hnt : (a 52).toNat = nb := by omega
    have h8 : 0 ≤ a 8 ∧ a 8 ≤ 12 := by omega
    rw [hnt] at p
    have hb' : nb < (pouA a nb (x : Int) (1 + (y : Int)) 52).toNat := by rw [pouA_52]; omega
    have r2 := qb2 p.1 p.2 hb' (by rw [pouA_6]; split <;> omega)
    have r4 := qb4 p.1 p.2 hb'
    rw [pouA_w h8] at r2
    rw [pouA_4] at r4
    rw [e1, bnd2_s, if_pos (by rw [Z0, iI_le (by omega) (by omega)]; omega), if_pos rfl, hnb, r2, bnd2_s, if_pos rfl, r4, bnd2_s, ex, bnd2_s, if_pos rfl]
    refine AR.of p (J_pour J vb.1 hnb (by omega) (by omega) (by omega) q) ?_ ?_ ?_
    · rw [pouA_n h8 (by omega) (by omega) (by omega)]; omega
    · rw [pouA_n h8 (by omega) (by omega) (by omega)]; omega
    · rw [pouA_52]; omega
/-- the bell that is drawn -/
def KB (a : Nat → Int) (kk : Int32) : Prop := (a 52 = 0 ∧ kk = 0) ∨ (a 52 ≠ 0 ∧ ∃ j : Nat, j < (a 52).toNat ∧ kk = iI (j : Int))
theorem tunA_w {a : Nat → Int} {b : Nat} {y : Int} (h8 : 0 ≤ a 8 ∧ a 8 ≤ 12) : tunA a b y (54 + 8 * b) + tunA a b y (55 + 8 * b) = a (54 + 8 * b) + a (55 + 8 * b) - y := by
  unfold tunA dsc
  have f8 : drw (tuA a b (tlow a b y) (if crk (a (59 + 8 * b)) y (a (56 + 8 * b)) (a (58 + 8 * b)) then 1 else 0) (a (59 + 8 * b) + y)) (54 + 8 * b) y 8 = a 8 := by
    rw [drw_n (by omega) (by omega), tuA_n (by omega) (by omega) (by omega)]
  rw [addA_n (by rw [f8]; exact h8) (by omega), addA_n (by rw [f8]; exact h8) (by omega), drw_p, show 55 + 8 * b = 54 + 8 * b + 1 by omega, drw_p1, tuA_n (by omega) (by omega) (by omega), tuA_n (by omega) (by omega) (by omega)]
  omega
theorem a_417 (hk : k ≤ 990) (vc : VC M a n H L t) (vb : VB k a n H L t) (J : JJ a) (v w : Int32) {kk : Int32} (hkk : KB a kk) : ∀ fu, 0 < fu → AR k a L t (lp_L_acts_417 fu M v w (iI (a 52)) kk) := by
  intro fu hf
  obtain ⟨f, rfl⟩ : ∃ f, fu = f + 1 := ⟨fu - 1, by omega⟩
  have hM := vb.1.1
  have hS := vb.1.2.1
  have h8 : 0 ≤ a 8 ∧ a 8 ≤ 12 := by unfold BM at hM; omega
  unfold BM at hM
  unfold BS at hS
  obtain ⟨y, hy, ey⟩ := g_lowA w (d := 30) (by omega) (by omega)
  rw [← Z30] at ey
  unfold lp_L_acts_417
  rw [ey, bnd2_s, one_y]
  rcases hkk with ⟨h0, rfl⟩ | ⟨h0, j, hj, rfl⟩
  · have z : iI (a 52) = (0 : Int32) := by rw [h0]; rfl
    have e3 : f_X10_tune M 0 (iI (1 + (y : Int))) = some (-1, M) := s_tune_no vc vb (X := 0) (Y := 1 + (y : Int)) (by omega) (by omega) (Or.inl (by omega))
    rw [if_pos z, if_pos z, if_pos z, e3, bnd2_s, if_pos z, if_pos rfl]
    exact AR.same vc vb J
  · have z : ¬ iI (a 52) = (0 : Int32) := by rw [Z0, iI_inj (by omega) (by omega)]; exact h0
    obtain ⟨b1, b2, b3, b4, b5, b6, b7, b8, b9⟩ := vb.1.2.2.2.1 j hj
    obtain ⟨j1, j2, j3, -⟩ := J.2.2.1 j hj
    obtain ⟨wt, hwt, hwt2⟩ : ∃ wt : Int, f_X10_bell M (iI (j : Int)) 2 = some (iI wt, M) ∧ (a (60 + 8 * j) ≠ 3 → wt = a (54 + 8 * j) + a (55 + 8 * j)) := by
      by_cases c : a (60 + 8 * j) = 3
      · exact ⟨-4, qb2x vc vb hj c, fun q => absurd c q⟩
      · exact ⟨_, qb2 vc vb hj c, fun _ => rfl⟩
    rw [if_neg z, qb8 vc vb hj, bnd2_s, if_neg z, qb5 vc vb hj, bnd2_s, if_neg z, hwt, bnd2_s]
    by_cases c : a (60 + 8 * j) = 0
    · have hw := hwt2 (by omega)
      subst hw
      by_cases d : 1 + (y : Int) < a (54 + 8 * j) + a (55 + 8 * j)
      · obtain ⟨M1, e1, p⟩ := s_tune (by omega) vc vb hj (Y := 1 + (y : Int)) (by omega) c d
        have hl := low_p (pi := a (57 + 8 * j)) (tu := a 50) (n := 1 + (y : Int)) (w := a (54 + 8 * j) + a (55 + 8 * j)) (by omega) (by omega) (by omega) (by omega)
        have hlt : tlow a j (1 + (y : Int)) = low (a (57 + 8 * j)) (a 50) (1 + (y : Int)) (a (54 + 8 * j) + a (55 + 8 * j)) := rfl
        have hj' : j < (tunA a j (1 + (y : Int)) 52).toNat := by rw [tunA_n h8 (by omega) (by omega)]; exact hj
        have r5 := qb5 p.1 p.2 hj'
        have r2 := qb2 p.1 p.2 hj' (by rw [tunA_6 h8]; split <;> omega)
        rw [tunA_3 h8] at r5
        rw [tunA_w h8] at r2
        rw [e1, bnd2_s, if_neg z, if_neg (by rw [Z0, iI_lt (by omega) (by omega)]; omega), if_pos (by rw [iI_lt (by omega) (by omega)]; exact d), r5, bnd2_s, if_pos rfl, if_neg (by rw [iI_lt (by omega) (by omega)]; omega), r2, bnd2_s, if_pos (by rw [iI_sub])]
        refine AR.of p (J_tune J vb.1 hj c (by omega) d) ?_ ?_ ?_
        · rw [tunA_n h8 (by omega) (by omega)]; omega
        · rw [tunA_n h8 (by omega) (by omega)]; omega
        · rw [tunA_n h8 (by omega) (by omega)]; omega
      · rw [s_tune_not vc vb hj (Y := 1 + (y : Int)) (by omega) (Or.inr (by omega)), bnd2_s, if_neg z, if_neg (by rw [Z0, iI_lt (by omega) (by omega)]; omega), if_neg (by rw [iI_lt (by omega) (by omega)]; exact d), if_pos rfl]
        exact AR.same vc vb J
    · rw [s_tune_not vc vb hj (Y := 1 + (y : Int)) (by omega) (Or.inl c), bnd2_s, if_neg z, if_pos (by rw [Z0, iI_lt (by omega) (by omega)]; omega), if_pos rfl]
      exact AR.same vc vb J
theorem a_578 (vc : VC M a n H L t) (vb : VB k a n H L t) (J : JJ a) (v w : Int32) {kk : Int32} (hkk : KB a kk) : ∀ fu, 0 < fu → AR k a L t (lp_L_acts_578 fu M v w (iI (a 52)) kk) := by
  intro fu hf
  obtain ⟨f, rfl⟩ : ∃ f, fu = f + 1 := ⟨fu - 1, by omega⟩
  have hM := vb.1.1
  have h8 : 0 ≤ a 8 ∧ a 8 ≤ 12 := by unfold BM at hM; omega
  unfold BM at hM
  unfold lp_L_acts_578
  rcases hkk with ⟨h0, rfl⟩ | ⟨h0, j, hj, rfl⟩
  · have z : iI (a 52) = (0 : Int32) := by rw [h0]; rfl
    have e3 : f_X10_smash M 0 = some (-1, M) := s_smash_no vc vb (X := 0) (by omega) (by omega)
    rw [if_pos z, e3, bnd2_s, if_pos z, if_pos rfl]
    exact AR.same vc vb J
  · have z : ¬ iI (a 52) = (0 : Int32) := by rw [Z0, iI_inj (by omega) (by omega)]; exact h0
    obtain ⟨b1, b2, b3, b4, b5, b6, b7, b8, b9⟩ := vb.1.2.2.2.1 j hj
    rw [if_neg z, qb8 vc vb hj, bnd2_s]
    by_cases c : a (60 + 8 * j) < 2
    · obtain ⟨M1, e1, p⟩ := s_smash vc vb hj c
      have n52 : smA a j 52 = a 52 := by
        unfold smA; rw [uI_n (by omega), uI_n (by omega), uI_n (by omega), addA_n h8 (by omega)]
      have r8 := qb8 p.1 p.2 (j := j) (by rw [n52]; exact hj)
      rw [show smA a j (60 + 8 * j) = 3 by unfold smA; rw [uI_s]] at r8
      rw [if_pos (by rw [Z1, iI_le (by omega) (by omega)]; omega), qb2 vc vb hj (by omega), bnd2_s, e1, bnd2_s, if_neg z, if_pos rfl, if_neg (by rw [Z0, iI_lt (by omega) (by omega)]; omega), r8, bnd2_s, if_pos (show iI 3 = (3 : Int32) from rfl)]
      refine AR.of p (J_smash J vb.1 hj c) ?_ ?_ (by rw [n52]; omega)
      · unfold smA; rw [uI_n (by omega), uI_n (by omega), uI_n (by omega), addA_n h8 (by omega)]; omega
      · unfold smA; rw [uI_n (by omega), uI_n (by omega), uI_n (by omega), addA_n h8 (by omega)]; omega
    · rw [if_neg (by rw [Z1, iI_le (by omega) (by omega)]; omega), s_smash_not vc vb hj c, bnd2_s, if_neg z, if_pos rfl, if_pos (by decide)]
      exact AR.same vc vb J
theorem ord_tail (vc : VC M a n H L t) (vb : VB k a n H L t) (J : JJ a) {X Y U : Int} (hx : 0 ≤ X ∧ X ≤ 3) (hy : 1 ≤ Y ∧ Y ≤ 20000) (hu : 0 ≤ U ∧ U ≤ 500) : AR k a L t (bnd2 (f_X10_order M (iI X) (iI Y) (iI U)) fun r Mw => (if (r : Int32) = (-3 : Int32) then (bnd2 (f_X10_count Mw 6) fun r2 Mx => (if (r2 : Int32) = (8 : Int32) then some (1, Mx) else (if (iI (a 53) : Int32) = (100 : Int32) then some (1, Mx) else none))) else (if (r : Int32) = (iI (a 53) : Int32) then (bnd2 (f_X10_orderOf Mw (iI (a 53)) 3) fun r3 Mx => (if (r3 : Int32) = 0 then some (1, Mx) else none)) else none))) := by
  have hM := vb.1.1
  unfold BM at hM
  rcases s_order vc vb hx hy hu with ⟨q, e⟩ | ⟨q1, q2, M1, e, p⟩
  · rw [e, bnd2_s, if_pos rfl, qc6 vc vb, bnd2_s]
    by_cases c : openN a = 8
    · rw [if_pos (by rw [c]; rfl)]
      exact AR.same vc vb J
    · have c2 : a 53 = 100 := by
        rcases q with q | q
        · exact absurd q c
        · exact q
      have hN := vb.1.2.2.2.2.2.2
      rw [if_neg (by rw [Z8, iI_inj (by omega) (by omega)]; omega), if_pos (by rw [c2]; rfl)]
      exact AR.same vc vb J
  · obtain ⟨o, ho⟩ : ∃ o : Nat, a 53 = o := ⟨(a 53).toNat, by omega⟩
    have hto : (a 53).toNat = o := by omega
    rw [hto] at p
    have r3 := qo3 p.1 p.2 (o := o) (by unfold ordA; rw [uI_s]; omega)
    rw [show ordA a o X Y U (857 + 4 * o) = 0 by unfold ordA; rw [uI_n (by omega), uI_s]] at r3
    rw [e, bnd2_s, if_neg (by rw [Zm3, iI_inj (by omega) (by omega)]; omega), if_pos rfl, ho, r3, bnd2_s, if_pos (show iI 0 = (0 : Int32) from rfl)]
    refine AR.of p (J_order J (by omega) (by omega) ho) ?_ ?_ ?_
    · unfold ordA; rw [uI_n (by omega), uI_n (by omega), uI_n (by omega), uI_n (by omega), uI_n (by omega)]; omega
    · unfold ordA; rw [uI_n (by omega), uI_n (by omega), uI_n (by omega), uI_n (by omega), uI_n (by omega)]; omega
    · unfold ordA; rw [uI_n (by omega), uI_n (by omega), uI_n (by omega), uI_n (by omega), uI_n (by omega)]; omega
theorem a_666 (vc : VC M a n H L t) (vb : VB k a n H L t) (J : JJ a) (v w : Int32) {kk : Int32} (hkk : KB a kk) : ∀ fu, 0 < fu → AR k a L t (lp_L_acts_666 fu M v w (iI (a 52)) kk) := by
  intro fu hf
  obtain ⟨f, rfl⟩ : ∃ f, fu = f + 1 := ⟨fu - 1, by omega⟩
  have hM := vb.1.1
  unfold BM at hM
  obtain ⟨u, hu, eu⟩ := g_lowA (w >>> ((6 : Int32) &&& 31)) (d := 20) (by omega) (by omega)
  obtain ⟨q, hq, eq⟩ := g_lowA w (d := 60) (by omega) (by omega)
  rw [← Z20] at eu
  rw [← Z60] at eq
  unfold lp_L_acts_666
  rw [qc5 vc vb, bnd2_s]
  rcases hkk with ⟨h0, rfl⟩ | ⟨h0, j, hj, rfl⟩
  · have z : iI (a 52) = (0 : Int32) := by rw [h0]; rfl
    rw [if_pos z, if_pos z, if_pos (by decide), eu, bnd2_s]
    exact ord_tail vc vb J (X := 0) (Y := 800) (U := (u : Int)) (by omega) (by omega) (by omega)
  · have z : ¬ iI (a 52) = (0 : Int32) := by rw [Z0, iI_inj (by omega) (by omega)]; exact h0
    obtain ⟨b1, b2, b3, b4, b5, b6, b7, b8, b9⟩ := vb.1.2.2.2.1 j hj
    obtain ⟨j1, j2, j3, -⟩ := J.2.2.1 j hj
    obtain ⟨Y, hY, eY⟩ : ∃ Y : Int, (1 ≤ Y ∧ Y ≤ 20000) ∧ (if (1 : Int32) ≤ iI (a (57 + 8 * j)) - iI (q : Int) then iI (a (57 + 8 * j)) - iI (q : Int) else (1 : Int32)) = iI Y := by
      rw [iI_sub]
      by_cases c : 1 ≤ a (57 + 8 * j) - (q : Int)
      · exact ⟨a (57 + 8 * j) - (q : Int), by omega, by rw [if_pos (by rw [Z1, iI_le (by omega) (by omega)]; exact c)]⟩
      · exact ⟨1, by omega, by rw [if_neg (by rw [Z1, iI_le (by omega) (by omega)]; exact c)]; rfl⟩
    rw [if_neg z, qb4 vc vb hj, bnd2_s, if_neg z, qb5 vc vb hj, bnd2_s, eq, bnd2_s, eu, bnd2_s, eY]
    exact ord_tail vc vb J b2 hY (by omega)
end GAC
