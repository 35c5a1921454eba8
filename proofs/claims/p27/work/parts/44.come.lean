/-! THE LAW'S METHODS: comesTrue. -/
theorem and_max (x : Int32) : ∃ p : Nat, p < 2147483648 ∧ x &&& 2147483647 = iI (p : Int) := by
  refine ⟨x.toBitVec.toNat % 2147483648, by omega, ?_⟩
  rw [iI_nI]
  apply Int32.toBitVec_inj.mp
  apply BitVec.eq_of_toNat_eq
  rw [Int32.toBitVec_and, BitVec.toNat_and, pk_tn (by omega), show (2147483647 : Int32).toBitVec.toNat = 2147483647 from by decide]
  exact Nat.and_two_pow_sub_one_eq_mod _ 31
theorem g_low {M : MM} (x : Int32) {d : Int} (hd : 0 < d) (hd2 : d < 2147483648) : ∃ j : Nat, j < d.toNat ∧ f_L_low M x (iI d) = some (iI (j : Int), M) := by
  obtain ⟨p, hp, e⟩ := and_max x
  have hm := Int.emod_nonneg (p : Int) (show d ≠ 0 by omega)
  have hm2 := Int.emod_lt_of_pos (p : Int) hd
  refine ⟨((p : Int) % d).toNat, by omega, ?_⟩
  unfold f_L_low
  rw [if_neg (by rw [Z0, iI_inj (by omega) (by omega)]; omega), e, iI_div (by omega) (by omega) (by omega) (by omega), iI_mul, iI_sub, Int.mul_comm, ← Int.emod_def, Int.toNat_of_nonneg hm]
theorem low_ge1 {pi tu n w : Int} : 1 ≤ low pi tu n w := by unfold low; split <;> omega
theorem tunA_n {a : Nat → Int} {b q : Nat} {y : Int} (h8 : 0 ≤ a 8 ∧ a 8 ≤ 12) (hq : q < 8 ∨ 45 ≤ q) (h : q < 54 + 8 * b ∨ 62 + 8 * b ≤ q ∨ q = 56 + 8 * b ∨ q = 58 + 8 * b ∨ q = 61 + 8 * b) : tunA a b y q = a q := by
  unfold tunA
  rw [dsc_n (by rw [tuA_n (by omega) (by omega) (by omega)]; exact h8) (by omega) hq (by omega) (by omega), tuA_n (by omega) (by omega) (by omega)]
theorem tunA_3 {a : Nat → Int} {b : Nat} {y : Int} (h8 : 0 ≤ a 8 ∧ a 8 ≤ 12) : tunA a b y (57 + 8 * b) = tlow a b y := by
  unfold tunA
  rw [dsc_n (by rw [tuA_n (by omega) (by omega) (by omega)]; exact h8) (by omega) (by omega) (by omega) (by omega), tuA_3]
theorem tunA_6 {a : Nat → Int} {b : Nat} {y : Int} (h8 : 0 ≤ a 8 ∧ a 8 ≤ 12) : tunA a b y (60 + 8 * b) = if crk (a (59 + 8 * b)) y (a (56 + 8 * b)) (a (58 + 8 * b)) then 1 else 0 := by
  unfold tunA
  rw [dsc_n (by rw [tuA_n (by omega) (by omega) (by omega)]; exact h8) (by omega) (by omega) (by omega) (by omega), tuA_6]
theorem pouA_n {a : Nat → Int} {b q : Nat} {x y : Int} (h8 : 0 ≤ a 8 ∧ a 8 ≤ 12) (h0 : q < 4 ∨ 45 ≤ q) (h1 : q ≠ 52) (h2 : q < 54 + 8 * b ∨ 62 + 8 * b ≤ q) : pouA a b x y q = a q := by
  unfold pouA poF poE
  rw [uI_n h1, uI_n (by omega), uI_n (by omega), uI_n (by omega), uI_n (by omega), uI_n (by omega), uI_n (by omega), poD_n h8 h0 (by omega) (by omega)]
theorem pouA_3 {a : Nat → Int} {b : Nat} {x y : Int} : pouA a b x y (57 + 8 * b) = pit x (rtI y) (albA a y) := by
  unfold pouA poF poE
  rw [uI_n (by omega), uI_n (by omega), uI_n (by omega), uI_n (by omega), uI_n (by omega), uI_s]
theorem pouA_52 {a : Nat → Int} {b : Nat} {x y : Int} : pouA a b x y 52 = (b : Int) + 1 := by
  unfold pouA poF
  rw [uI_s]
theorem pF_spec {c0 t0 sp pf pt : Int} : ∀ i : Nat, pF c0 t0 sp pf pt i = -4 ∨ ∃ y : Nat, pF c0 t0 sp pf pt i = y ∧ 1 ≤ y ∧ y ≤ i ∧ gdP c0 t0 sp pf pt y ∧ ∀ m : Nat, y < m → m ≤ i → ¬ gdP c0 t0 sp pf pt m := by
  intro i
  induction i with
  | zero => exact Or.inl rfl
  | succ i ih =>
    have e : pF c0 t0 sp pf pt (i + 1) = if gdP c0 t0 sp pf pt ((i + 1 : Nat) : Int) then ((i + 1 : Nat) : Int) else pF c0 t0 sp pf pt i := rfl
    by_cases c : gdP c0 t0 sp pf pt ((i + 1 : Nat) : Int)
    · exact Or.inr ⟨i + 1, by rw [e, if_pos c], by omega, by omega, c, fun m h1 h2 => by omega⟩
    · rw [if_neg c] at e
      rcases ih with h | ⟨y, h1, h2, h3, h4, h5⟩
      · exact Or.inl (e.trans h)
      · refine Or.inr ⟨y, e.trans h1, h2, by omega, h4, fun m m1 m2 => ?_⟩
        by_cases q : m = i + 1
        · rw [q]; exact c
        · exact h5 m m1 (by omega)
section GCM
variable {k : Int} {M : MM} {a : Nat → Int} {n : Nat} {H : Nat → Nat → Int} {L : Nat} {t : Nat → Int}
theorem VB.up {k' : Int} (h : VB k a n H L t) (hk : k ≤ k') : VB k' a n H L t := ⟨h.1.mono hk, h.2.1, fun i hi => (h.2.2.1 i hi).mono hk, h.2.2.2⟩
/-- a state of the class with the same works -/
def SM (k : Int) (M : MM) (a : Nat → Int) (L : Nat) (t : Nat → Int) : Prop := ∃ n H, VC M a n H L t ∧ VB k a n H L t
theorem SM.of (vc : VC M a n H L t) (vb : VB k a n H L t) : SM k M a L t := ⟨n, H, vc, vb⟩
theorem SM.up {k' : Int} (h : SM k M a L t) (hk : k ≤ k') : SM k' M a L t := by
  obtain ⟨n, H, vc, vb⟩ := h
  exact ⟨n, H, vc, vb.up hk⟩
theorem PU.back {a' : Nat → Int} (h : PU k M a a' n H L t) (hb : Bd k a) : ∃ M1 r, f_X10_undo M = some (iI r, M1) ∧ B31 r ∧ 0 ≤ r ∧ SM (k + 1) M1 a L t := by
  obtain ⟨M1, e, v, b⟩ := h.undo hb
  have h4 : pN n ≤ 4 := h.2.2.1
  exact ⟨M1, _, e, by omega, by omega, _, _, v, b⟩
theorem l_c367 (hk : k ≤ 1000) (s : SM k M a L t) : ∀ fu, 0 < fu → ∃ M1, lp_L_comesTrue_367 fu M (svS a L) = some (1, M1) ∧ SM k M1 a L t := by
  intro fu hf
  obtain ⟨f, rfl⟩ : ∃ f, fu = f + 1 := ⟨fu - 1, by omega⟩
  obtain ⟨n, H, vc, vb⟩ := s
  refine ⟨M, ?_, n, H, vc, vb⟩
  unfold lp_L_comesTrue_367
  rw [if_neg (by decide), g_sum hk vc vb, bnd2_s, if_pos (lgc_eq.mpr rfl)]
theorem l_c201 (hk : k + 2 ≤ 1000) (s : SM k M a L t) {o : Nat} (ho : o < (a 53).toNat) : ∀ fu, 0 < fu → ∃ M1, lp_L_comesTrue_201 fu M (svS a L) (iI o) = some (1, M1) ∧ SM (k + 2) M1 a L t := by
  intro fu hf
  obtain ⟨f, rfl⟩ : ∃ f, fu = f + 1 := ⟨fu - 1, by omega⟩
  obtain ⟨n, H, vc, vb⟩ := s
  have hM := vb.1.1
  have h8 : 0 ≤ a 8 ∧ a 8 ≤ 12 := by unfold BM at hM; omega
  have hbb := bC_b hM vb.1.2.1
  have hS := vb.1.2.1
  unfold BM at hM
  unfold BS at hS
  have hN := vb.1.2.2.2.2.2.1
  have no : ¬ (1 : Int32) = 0 := by decide
  have fu0 : 0 < FU := by unfold FU; omega
  have Bo := vb.1.2.2.2.2.1 o ho
  unfold BO at Bo
  obtain ⟨M1, e1, v1⟩ := q_pourFor vc vb ho
  have stop : ∀ M2, SM k M2 a L t → ∃ M1, lp_L_comesTrue_367 FU M2 (svS a L) = some (1, M1) ∧ SM (k + 2) M1 a L t := fun M2 s2 => by
    obtain ⟨M3, h1, h2⟩ := l_c367 (by omega) s2 FU fu0
    exact ⟨M3, h1, h2.up (by omega)⟩
  unfold lp_L_comesTrue_201
  rw [e1, bnd2_s, qc1 v1 vb, bnd2_s, if_neg no]
  unfold poR
  rcases pF_spec (c0 := bC a) (t0 := bT a) (sp := a 49) (pf := a (854 + 4 * o)) (pt := a (855 + 4 * o)) 10000 with h | ⟨y, h1, h2, h3, h4, h5⟩
  · rw [h, if_pos (by decide)]
    exact stop M1 ⟨n, H, v1, vb⟩
  rw [h1, if_neg (by rw [Z0, iI_le (by omega) (by omega)]; omega), qc2 v1 vb, bnd2_s]
  by_cases c1 : hereN a = 12
  · rw [if_pos (by rw [Z12, iI_le (by omega) (by omega)]; omega)]
    exact stop M1 ⟨n, H, v1, vb⟩
  rw [if_neg (by rw [Z12, iI_le (by omega) (by omega)]; omega)]
  by_cases c2 : a 52 = 100
  · rw [if_pos (by rw [Z100, iI_le (by omega) (by omega)]; omega)]
    exact stop M1 ⟨n, H, v1, vb⟩
  rw [if_neg (by rw [Z100, iI_le (by omega) (by omega)]; omega), qo0 v1 vb ho, bnd2_s]
  obtain ⟨nb, hnb⟩ : ∃ nb : Nat, a 52 = nb := ⟨(a 52).toNat, by omega⟩
  have hnt : (a 52).toNat = nb := by omega
  have pb : ∀ z : Nat, 1 ≤ z → z ≤ 10000 → 0 ≤ pit (a (854 + 4 * o)) (rtI z) (albA a z) ∧ pit (a (854 + 4 * o)) (rtI z) (albA a z) ≤ 1500250 ∨ ¬ (z : Int) ≤ bC a + bT a := fun z z1 z2 => by
    by_cases q : (z : Int) ≤ bC a + bT a
    · have r := rtI_b (w := (z : Int)) (by omega) (by omega)
      have q1 := cin_nn (n := (z : Int)) (c := bC a) (t := bT a) (by omega) (by omega) (by omega)
      have q2 := cin_le (n := (z : Int)) (c := bC a) (t := bT a) (by omega) (by omega) (by omega) (by omega)
      have al1 := alo_nn (c := cin (z : Int) (bC a) (bT a)) (t := (z : Int) - cin (z : Int) (bC a) (bT a)) (by omega) (by omega)
      have al2 := alo_le (c := cin (z : Int) (bC a) (bT a)) (t := (z : Int) - cin (z : Int) (bC a) (bT a)) (by omega) (by omega)
      exact Or.inl (pit_b (p := a (854 + 4 * o)) (r := rtI z) (al := albA a z) (by omega) al1 al2)
    · exact Or.inr q
  have g : ∀ (k' : Int) (M2 : MM) (n2 : Nat) (H2 : Nat → Nat → Int) (z : Nat), 1 ≤ z → z ≤ 10000 → (z : Int) ≤ bC a + bT a → Bd k' a → PU k' M2 a (pouA a nb (a (854 + 4 * o)) z) n2 H2 L t → f_X10_bell M2 (iI (a 52)) 5 = some (iI (pit (a (854 + 4 * o)) (rtI z) (albA a z)), M2) ∧ f_X10_orderOf M2 (iI o) 1 = some (iI (a (855 + 4 * o)), M2) := by
    intro k' M2 n2 H2 z z1 z2 z3 hb p
    have r1 := qb5 p.1 p.2 (j := nb) (by rw [pouA_52]; omega)
    have r2 := qo1 p.1 p.2 (o := o) (by rw [pouA_n h8 (by omega) (by omega) (by omega)]; exact ho)
    rw [pouA_3] at r1
    rw [pouA_n h8 (by omega) (by omega) (by omega)] at r2
    exact ⟨by rw [hnb]; exact r1, r2⟩
  have hs1 := sh_nn (p := (y : Int)) (s := a 49) (by omega) (by omega)
  rcases s_pour v1 vb (X := a (854 + 4 * o)) (Y := (y : Int)) Bo.1 (by omega) with ⟨q, -⟩ | ⟨-, q, -⟩ | ⟨q, -, -, M2, e2, p2⟩
  · exact absurd h4.1 (by omega)
  · exact absurd q (by omega)
  rw [hnt] at p2
  have g2 := g k M2 n H y h2 h3 (by omega) vb.1 p2
  have pb1 := pb y h2 h3
  obtain ⟨M3, r3, e3, b3, n3, s3⟩ := p2.back vb.1
  have hgd := h4.2
  change a (855 + 4 * o) ≤ pit (a (854 + 4 * o)) (rtI y) (albA a y) at hgd
  rw [e2, bnd2_s, if_pos rfl, g2.1, bnd2_s, g2.2, bnd2_s, if_neg (by rw [iI_lt (by omega) (by omega)]; omega), e3, bnd2_s, if_neg (by rw [Z0, iI_lt b3 (by omega)]; omega), if_neg no]
  have stop3 : ∀ M2, SM (k + 1) M2 a L t → ∃ M1, lp_L_comesTrue_367 FU M2 (svS a L) = some (1, M1) ∧ SM (k + 2) M1 a L t := fun M2 s2 => by
    obtain ⟨M3, h1, h2⟩ := l_c367 (by omega) s2 FU fu0
    exact ⟨M3, h1, h2.up (by omega)⟩
  by_cases c3 : y = 10000
  · rw [if_pos (by rw [Z10000, iI_le (by omega) (by omega)]; omega)]
    exact stop3 M3 s3
  obtain ⟨n3', H3, v3, vb3⟩ := s3
  rw [if_neg (by rw [Z10000, iI_le (by omega) (by omega)]; omega), qo0 v3 vb3 ho, bnd2_s, iI_1]
  have hs2 := sh_nn (p := ((y + 1 : Nat) : Int)) (s := a 49) (by omega) (by omega)
  rcases s_pour v3 vb3 (X := a (854 + 4 * o)) (Y := ((y + 1 : Nat) : Int)) Bo.1 (by omega) with ⟨q, M4, e4, v4⟩ | ⟨-, q, -⟩ | ⟨q, -, -, M4, e4, p4⟩
  · rw [e4, bnd2_s, if_pos rfl]
    exact stop3 M4 ⟨n3', H3, v4, vb3⟩
  · exact absurd q (by omega)
  rw [hnt] at p4
  have g4 := g (k + 1) M4 n3' H3 (y + 1) (by omega) (by omega) (by omega) vb3.1 p4
  have pb2 := pb (y + 1) (by omega) (by omega)
  obtain ⟨M5, r5, e5, b5, n5, s5⟩ := p4.back vb3.1
  have ngd : pit (a (854 + 4 * o)) (rtI ((y + 1 : Nat) : Int)) (albA a ((y + 1 : Nat) : Int)) < a (855 + 4 * o) := by
    have q5 := h5 (y + 1) (by omega) (by omega)
    by_cases q6 : a (855 + 4 * o) ≤ pit (a (854 + 4 * o)) (rtI ((y + 1 : Nat) : Int)) (albA a ((y + 1 : Nat) : Int))
    · exact absurd ⟨q, q6⟩ q5
    · omega
  rw [e4, bnd2_s, if_neg (by rw [Zm2, iI_inj (by omega) (by omega)]; omega), if_pos rfl, g4.1, bnd2_s, g4.2, bnd2_s, if_neg (by rw [iI_le (by omega) (by omega)]; omega), e5, bnd2_s, if_neg (by rw [Z0, iI_lt b5 (by omega)]; omega)]
  obtain ⟨M6, e6, s6⟩ := l_c367 (by omega) s5 FU fu0
  exact ⟨M6, e6, s6.up (by omega)⟩
theorem g_comesTrue (hk : k + 4 ≤ 1000) (vc : VC M a n H L t) (vb : VB k a n H L t) (x : Int32) : ∃ M1, f_L_comesTrue M x = some (1, M1) ∧ SM (k + 4) M1 a L t := by
  have hM := vb.1.1
  have h8 : 0 ≤ a 8 ∧ a 8 ≤ 12 := by unfold BM at hM; omega
  unfold BM at hM
  have no : ¬ (1 : Int32) = 0 := by decide
  have fu0 : 0 < FU := by unfold FU; omega
  unfold f_L_comesTrue
  rw [qc5 vc vb, bnd2_s]
  by_cases c5 : a 53 = 0
  · rw [if_pos (by rw [c5]; rfl)]
    exact ⟨M, rfl, (SM.of vc vb).up (by omega)⟩
  rw [if_neg (by rw [Z0, iI_inj (by omega) (by omega)]; exact c5), qc1 vc vb, bnd2_s]
  by_cases c1 : a 52 = 0
  · rw [if_pos (by rw [c1]; rfl)]
    exact ⟨M, rfl, (SM.of vc vb).up (by omega)⟩
  obtain ⟨o, ho, eo⟩ := g_low (M := M) x (d := a 53) (by omega) (by omega)
  obtain ⟨b, hb, eb⟩ := g_low (M := M) (x >>> ((4 : Int32) &&& 31)) (d := a 52) (by omega) (by omega)
  have Bo := vb.1.2.2.2.2.1 o ho
  unfold BO at Bo
  obtain ⟨b1, b2, b3, b4, b5, b6, b7, b8, b9⟩ := vb.1.2.2.2.1 b hb
  have tb := tunR_b (a := a) (b := b) (o := o)
  rw [if_neg (by rw [Z0, iI_inj (by omega) (by omega)]; exact c1), g_sum (by omega) vc vb, bnd2_s, qc5 vc vb, bnd2_s, eo, bnd2_s, qc1 vc vb, bnd2_s, eb, bnd2_s, q_tuneFor (by omega) vc vb hb ho, bnd2_s, qb8 vc vb hb, bnd2_s]
  have cond : (if iI (tunR a b o) = (-2 : Int32) then (1 : Int32) else 0) = (if iI (a (60 + 8 * b)) = (0 : Int32) then (0 : Int32) else 1) := by
    by_cases c : a (60 + 8 * b) = 0
    · rw [if_pos (show iI (a (60 + 8 * b)) = (0 : Int32) by rw [c]; rfl), if_neg (by
        rw [Zm2, iI_inj (by omega) (by omega)]
        unfold tunR
        rw [if_pos c]
        split
        · omega
        · split
          · rcases tF_spec (a := a) (b := b) (o := o) 1000 (by omega) with h | ⟨y, h1, h2, -⟩ <;> omega
          · omega)]
    · rw [if_neg (show ¬ iI (a (60 + 8 * b)) = (0 : Int32) by rw [Z0, iI_inj (by omega) (by omega)]; exact c), if_pos (by unfold tunR; rw [if_neg c]; rfl)]
  rw [if_pos cond]
  have stop : ∀ (k' : Int) (M2 : MM), k' ≤ k + 2 → SM k' M2 a L t → ∃ M1, lp_L_comesTrue_201 FU M2 (svS a L) (iI o) = some (1, M1) ∧ SM (k + 4) M1 a L t := fun k' M2 hk' s2 => by
    obtain ⟨M3, h1, h2⟩ := l_c201 (by omega) s2 ho FU fu0
    exact ⟨M3, h1, h2.up (by omega)⟩
  by_cases c : tunR a b o ≤ 0
  · rw [if_pos (by rw [Z0, iI_le (by omega) (by omega)]; exact c)]
    exact stop k M (by omega) (SM.of vc vb)
  have sp : a (60 + 8 * b) = 0 ∧ a (56 + 8 * b) = a (854 + 4 * o) ∧ tunR a b o = tF a b o 1000 := by
    unfold tunR at c ⊢
    by_cases d : a (60 + 8 * b) = 0
    · rw [if_pos d] at c ⊢
      by_cases e : fit a b o
      · rw [if_pos e] at c; omega
      · rw [if_neg e] at c ⊢
        by_cases g : a (56 + 8 * b) = a (854 + 4 * o)
        · rw [if_pos g]; exact ⟨d, g, rfl⟩
        · rw [if_neg g] at c; omega
    · rw [if_neg d] at c; omega
  obtain ⟨y, hy1, hy2, hy3, hy4, hy5⟩ : ∃ y : Int, tunR a b o = y ∧ (1 ≤ y ∧ y ≤ 1000) ∧ ¬ tStop a b y ∧ pOK a o (tlow a b y) ∧ ∀ m : Int, 1 ≤ m → m < y → ¬ tStop a b m ∧ ¬ pOK a o (tlow a b m) := by
    rcases tF_spec (a := a) (b := b) (o := o) 1000 (by omega) with h | ⟨y, h1, h2, h3, h4, h5⟩
    · exact absurd c (by omega)
    · exact ⟨y, by omega, by omega, h3, h4, fun m m1 m2 => h5 m (by omega) m2⟩
  have hS := vb.1.2.1
  unfold BS at hS
  have lw : ∀ z : Int, 0 ≤ z → 1 ≤ tlow a b z ∧ tlow a b z ≤ 2000000 := fun z hz => ⟨low_ge1, (low_b (pi := a (57 + 8 * b)) (tu := a 50) (n := z) (w := a (54 + 8 * b) + a (55 + 8 * b)) b3 (by omega) hz (by omega)).2⟩
  -- one tuning and back
  have one : ∀ (k' : Int) (M2 : MM) (z : Int), k ≤ k' → k' ≤ k + 1 → SM k' M2 a L t → 1 ≤ z → z ≤ y → ¬ tStop a b z → ∃ M3, f_X10_tune M2 (iI b) (iI z) = some (iI (tlow a b z), M3) ∧ f_X10_bell M3 (iI b) 8 = some (iI 0, M3) ∧ (∃ T, f_X10_tuneFor M3 (iI b) (iI o) = some (iI T, M3) ∧ B31 T ∧ (T = 0 ↔ pOK a o (tlow a b z))) ∧ ∃ M4 r, f_X10_undo M3 = some (iI r, M4) ∧ B31 r ∧ 0 ≤ r ∧ SM (k' + 1) M4 a L t := by
    intro k' M2 z k1 k2 s2 z1 z2 z3
    obtain ⟨n2, H2, v2, vb2⟩ := s2
    obtain ⟨M3, e3, p3⟩ := s_tune (by omega) v2 vb2 hb (Y := z) (by omega) sp.1 (by
      by_cases q : a (54 + 8 * b) + a (55 + 8 * b) ≤ z
      · exact absurd (Or.inl q) z3
      · omega)
    have f6 : tunA a b z (60 + 8 * b) = 0 := by rw [tunA_6 h8, if_neg (fun q => z3 (Or.inr q))]
    have hb' : b < (tunA a b z 52).toNat := by rw [tunA_n h8 (by omega) (by omega)]; exact hb
    have ho' : o < (tunA a b z 53).toNat := by rw [tunA_n h8 (by omega) (by omega)]; exact ho
    have t8 := qb8 p3.1 p3.2 hb'
    rw [f6] at t8
    have tF := q_tuneFor (by omega) p3.1 p3.2 hb' ho'
    have tb3 := tunR_b (a := tunA a b z) (b := b) (o := o)
    refine ⟨M3, e3, t8, ⟨_, tF, by omega, ?_⟩, p3.back vb2.1⟩
    rw [tunR_0]
    unfold fit pOK
    rw [f6, tunA_n h8 (by omega) (q := 56 + 8 * b) (by omega), tunA_n h8 (by omega) (q := 854 + 4 * o) (by omega), tunA_n h8 (by omega) (q := 855 + 4 * o) (by omega), tunA_n h8 (by omega) (q := 856 + 4 * o) (by omega), tunA_3 h8]
    exact ⟨fun q => q.2.2, fun q => ⟨rfl, sp.2.1, q⟩⟩
  obtain ⟨M2, e2, t2, ⟨T2, f2, B2, z2⟩, M3, r3, e3, B3, n3, s3⟩ := one k M y (by omega) (by omega) (SM.of vc vb) hy2.1 (by omega) hy3
  have l2 := lw y (by omega)
  have T0 : T2 = 0 := z2.mpr hy4
  rw [T0] at f2
  rw [hy1, if_neg (by rw [Z0, iI_le (by omega) (by omega)]; omega), if_neg no, e2, bnd2_s, if_neg (by rw [Z0, iI_le (by omega) (by omega)]; omega), t2, bnd2_s, if_pos (show iI 0 = (0 : Int32) from rfl), f2, bnd2_s, if_pos (show iI 0 = (0 : Int32) from rfl), e3, bnd2_s, if_neg (by rw [Z0, iI_lt B3 (by omega)]; omega), if_neg no]
  by_cases c4 : y = 1
  · rw [if_pos (by rw [c4]; rfl)]
    exact stop (k + 1) M3 (by omega) s3
  obtain ⟨h51, h52⟩ := hy5 (y - 1) (by omega) (by omega)
  obtain ⟨M4, e4, t4, ⟨T4, f4, B4, z4⟩, M5, r5, e5, B5, n5, s5⟩ := one (k + 1) M3 (y - 1) (by omega) (by omega) s3 (by omega) (by omega) h51
  have l4 := lw (y - 1) (by omega)
  rw [if_neg (by rw [Z1, iI_inj (by omega) (by omega)]; exact c4), Z1, iI_sub, e4, bnd2_s, if_neg (by rw [Z0, iI_le (by omega) (by omega)]; omega), f4, bnd2_s, if_neg (by rw [Z0, iI_inj B4 (by omega)]; exact fun q => h52 (z4.mp q)), e5, bnd2_s, if_neg (by rw [Z0, iI_lt B5 (by omega)]; omega)]
  exact stop (k + 1 + 1) M5 (by omega) s5
end GCM
