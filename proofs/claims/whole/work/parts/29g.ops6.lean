/-! The calls: account, orderOf. -/
theorem l_X2of {M : MM} {a : Nat → Int} (R : RA (M 0) (M 40) (M 50) a) {m : Nat} (hm : m ≤ 1) {nb : Nat} (hn : a 8 = nb) : ∀ (j fu z : Nat), z + j = nb → j < fu → lp_X2_of_4 fu M 0 (iI m) (iI (sm (fun i => a (9 + 3 * i + m)) z)) (iI z) = some (iI (sm (fun i => a (9 + 3 * i + m)) nb), M) := by
  have hc := R.cb
  intro j
  induction j with
  | zero =>
    intro fu z hz hf
    obtain ⟨f, rfl⟩ : ∃ f, fu = f + 1 := ⟨fu - 1, by omega⟩
    obtain rfl : z = nb := by omega
    unfold lp_X2_of_4
    rw [R.lo (q := 8) (by omega), hn, if_pos (by rw [iI_le (by omega) (by omega)]; omega)]
  | succ j ih =>
    intro fu z hz hf
    obtain ⟨f, rfl⟩ : ∃ f, fu = f + 1 := ⟨fu - 1, by omega⟩
    have tz : (iI (z : Int)).toNatClampNeg = z := iI_lo (by omega)
    have c0 : ¬ iI (nb : Int) ≤ iI (z : Int) := by rw [iI_le (by omega) (by omega)]; omega
    have e1 : iI (z : Int) + 1 = iI ((z + 1 : Nat)) := by rw [Z1, iI_add]; congr 1
    have hp : (M 50 z).toNatClampNeg < 12 := R.1.1 z (by omega)
    have el : M 0 (9 + 3 * (M 50 z).toNatClampNeg + m) = iI (a (9 + 3 * z + m)) := R.lt (i := z) (by omega) (f := m) (by omega)
    unfold lp_X2_of_4
    simp only [R.lo (q := 8) (by omega), hn, if_neg c0, if_pos (vinI (show z < 12 by omega) (by omega)), tz, Nat.add_zero, if_pos hp, c_of M 0 _ hm, bnd2_s, el, iI_add, e1]
    exact ih f (z + 1) (by omega) (by omega)
theorem l_inScrap {M : MM} {a : Nat → Int} {m : Nat} (hm : m ≤ 1) {nb : Nat} (hn : a 8 = nb) (h12 : nb ≤ 12) : ∀ (j fu z : Nat), z + j = nb → j < fu → lp_X11_inScrap_4 fu (RF M a) (iI m) (iI (sm (fun i => a (9 + 3 * i + m)) z)) (iI z) = some (iI (sm (fun i => a (9 + 3 * i + m)) nb), RF M a) := by
  have v8 : vin (8 : Int32) 1254 := by decide
  have t8 : (8 : Int32).toNatClampNeg = 8 := by decide
  intro j
  induction j with
  | zero =>
    intro fu z hz hf
    obtain ⟨f, rfl⟩ : ∃ f, fu = f + 1 := ⟨fu - 1, by omega⟩
    obtain rfl : z = nb := by omega
    unfold lp_X11_inScrap_4
    rw [if_pos v8, t8, RF_21, hn, if_pos (by rw [iI_le (by omega) (by omega)]; omega)]
  | succ j ih =>
    intro fu z hz hf
    obtain ⟨f, rfl⟩ : ∃ f, fu = f + 1 := ⟨fu - 1, by omega⟩
    have c0 : ¬ iI (nb : Int) ≤ iI (z : Int) := by rw [iI_le (by omega) (by omega)]; omega
    have e1 : iI (z : Int) + 1 = iI ((z + 1 : Nat)) := by rw [Z1, iI_add]; congr 1
    have e9 : (9 : Int32) + 3 * iI (z : Int) + iI (m : Int) = iI ((9 + 3 * z + m : Nat)) := by rw [Z9, Z3, iI_mul, iI_add, iI_add]; refine congrArg iI ?_; omega
    unfold lp_X11_inScrap_4
    simp only [if_pos v8, t8, RF_21, hn, if_neg c0, e9, if_pos (vinI (show 9 + 3 * z + m < 1254 by omega) (by omega)), iI_lo (show 9 + 3 * z + m < 2147483648 by omega), iI_add, e1]
    exact ih f (z + 1) (by omega) (by omega)
def bS (a : Nat → Int) (m : Nat) (P : Nat → Bool) : Nat → Int := fun b => if P b then a (54 + 8 * b + m) else 0
theorem l_cInBells {k : Int} {M : MM} {a : Nat → Int} (R : RA (M 0) (M 40) (M 50) a) {m : Nat} (hm : m ≤ 1) {nb : Nat} (hn : a 52 = nb) (hb : ∀ b, b < nb → BB k a b) {s : Int} (hs : B31 s) : ∀ (j fu z : Nat), z + j = nb → j < fu → lp_X9_inBells_5 fu M 0 (iI m) (iI s) (iI (sm (bS a m (stP a s)) z)) (iI z) = some (iI (sm (bS a m (stP a s)) nb), M) := by
  have hc := R.cb
  intro j
  induction j with
  | zero =>
    intro fu z hz hf
    obtain ⟨f, rfl⟩ : ∃ f, fu = f + 1 := ⟨fu - 1, by omega⟩
    obtain rfl : z = nb := by omega
    unfold lp_X9_inBells_5
    rw [R.nb, hn, if_pos (by rw [iI_le (by omega) (by omega)]; omega)]
  | succ j ih =>
    intro fu z hz hf
    obtain ⟨f, rfl⟩ : ∃ f, fu = f + 1 := ⟨fu - 1, by omega⟩
    have tz : (iI (z : Int)).toNatClampNeg = z := iI_lo (by omega)
    have c0 : ¬ iI (nb : Int) ≤ iI (z : Int) := by rw [iI_le (by omega) (by omega)]; omega
    have e1 : iI (z : Int) + 1 = iI ((z + 1 : Nat)) := by rw [Z1, iI_add]; congr 1
    have e6 := R.b6 (b := z) (by omega)
    have em : M 0 (54 + 8 * z + m) = iI (a (54 + 8 * z + m)) := R.bf (by omega) (by omega)
    obtain ⟨-, -, -, -, -, b6, -, -, -⟩ := hb z (by omega)
    unfold lp_X9_inBells_5
    simp only [R.nb, hn, if_neg c0, if_pos (vinI (show z < 100 by omega) (by omega)), tz, e6, e1, c_of M 0 _ hm, bnd2_s, em, iI_add]
    have ih' := ih f (z + 1) (by omega) (by omega)
    by_cases c : a (60 + 8 * z) = s
    · have h2 : sm (bS a m (stP a s)) (z + 1) = sm (bS a m (stP a s)) z + a (54 + 8 * z + m) := by
        show _ + bS a m (stP a s) z = _
        unfold bS stP; simp [c]
      rw [if_pos (by rw [c]), ← h2, ih']
    · have h2 : sm (bS a m (stP a s)) (z + 1) = sm (bS a m (stP a s)) z := by
        show _ + bS a m (stP a s) z = _
        unfold bS stP; simp [c]
      rw [if_neg (by rw [iI_inj (by omega) hs]; exact c), ← h2, ih']
theorem c_inBells {k : Int} {M : MM} {a : Nat → Int} (R : RA (M 0) (M 40) (M 50) a) {m : Nat} (hm : m ≤ 1) (h0 : 0 ≤ a 52) (hb : ∀ b, b < (a 52).toNat → BB k a b) {s : Int} (hs : B31 s) : f_X9_inBells M 0 (iI m) (iI s) = some (iI (sm (bS a m (stP a s)) (a 52).toNat), M) := by
  have hc := R.cb
  exact l_cInBells R hm (by omega) hb hs _ FU 0 (Nat.zero_add _) (by unfold FU; omega)
theorem r_ofm {M : MM} {a : Nat → Int} {j m : Nat} (h : j < 100) (hm : m ≤ 1) : f_X11_of (RF M a) (iI j) (iI m) = some (iI (a (54 + 8 * j + m)), RF M a) := by
  have h2 : m = 0 ∨ m = 1 := by omega
  rcases h2 with rfl | rfl
  · exact r_of0 h
  · rw [show 54 + 8 * j + 1 = 55 + 8 * j by omega]; exact r_of1 h
theorem l_rInHere {k : Int} {M : MM} {a : Nat → Int} {m : Nat} (hm : m ≤ 1) {nb : Nat} (hn : a 52 = nb) (h100 : nb ≤ 100) (hb : ∀ b, b < nb → BB k a b) : ∀ (j fu z : Nat), z + j = nb → j < fu → lp_X11_inBells_5 fu (RF M a) (iI m) 0 (iI (sm (bS a m (hereP a)) z)) (iI z) = some (iI (sm (bS a m (hereP a)) nb), RF M a) := by
  have v52 : vin (52 : Int32) 1254 := by decide
  have t52 : (52 : Int32).toNatClampNeg = 52 := by decide
  intro j
  induction j with
  | zero =>
    intro fu z hz hf
    obtain ⟨f, rfl⟩ : ∃ f, fu = f + 1 := ⟨fu - 1, by omega⟩
    obtain rfl : z = nb := by omega
    unfold lp_X11_inBells_5
    rw [if_pos v52, t52, RF_21, hn, if_pos (by rw [iI_le (by omega) (by omega)]; omega)]
  | succ j ih =>
    intro fu z hz hf
    obtain ⟨f, rfl⟩ : ∃ f, fu = f + 1 := ⟨fu - 1, by omega⟩
    have c0 : ¬ iI (nb : Int) ≤ iI (z : Int) := by rw [iI_le (by omega) (by omega)]; omega
    have e1 : iI (z : Int) + 1 = iI ((z + 1 : Nat)) := by rw [Z1, iI_add]; congr 1
    obtain ⟨-, -, -, -, -, b6, -, -, -⟩ := hb z (by omega)
    have ih' := ih f (z + 1) (by omega) (by omega)
    unfold lp_X11_inBells_5
    rw [if_pos v52, t52, RF_21, hn, if_neg c0, if_pos rfl, r_isHere (by omega) b6, bnd2_s, e1]
    by_cases c : a (60 + 8 * z) < 2
    · have h2 : sm (bS a m (hereP a)) (z + 1) = sm (bS a m (hereP a)) z + a (54 + 8 * z + m) := by
        show _ + bS a m (hereP a) z = _
        unfold bS hereP; simp [c]
      rw [ify c, r_ofm (by omega) hm, bnd2_s, iI_add, ← h2, ih']
    · have h2 : sm (bS a m (hereP a)) (z + 1) = sm (bS a m (hereP a)) z := by
        show _ + bS a m (hereP a) z = _
        unfold bS hereP; simp [c]
      rw [ifn c, show iI (sm (bS a m (hereP a)) z) + 0 = iI (sm (bS a m (hereP a)) z) by rw [Z0, iI_add, Int.add_zero], ← h2, ih']
theorem l_rInSent {k : Int} {M : MM} {a : Nat → Int} {m : Nat} (hm : m ≤ 1) {nb : Nat} (hn : a 52 = nb) (h100 : nb ≤ 100) (hb : ∀ b, b < nb → BB k a b) : ∀ (j fu z : Nat), z + j = nb → j < fu → lp_X11_inBells_5 fu (RF M a) (iI m) 1 (iI (sm (bS a m (stP a 2)) z)) (iI z) = some (iI (sm (bS a m (stP a 2)) nb), RF M a) := by
  have v52 : vin (52 : Int32) 1254 := by decide
  have t52 : (52 : Int32).toNatClampNeg = 52 := by decide
  intro j
  induction j with
  | zero =>
    intro fu z hz hf
    obtain ⟨f, rfl⟩ : ∃ f, fu = f + 1 := ⟨fu - 1, by omega⟩
    obtain rfl : z = nb := by omega
    unfold lp_X11_inBells_5
    rw [if_pos v52, t52, RF_21, hn, if_pos (by rw [iI_le (by omega) (by omega)]; omega)]
  | succ j ih =>
    intro fu z hz hf
    obtain ⟨f, rfl⟩ : ∃ f, fu = f + 1 := ⟨fu - 1, by omega⟩
    have c0 : ¬ iI (nb : Int) ≤ iI (z : Int) := by rw [iI_le (by omega) (by omega)]; omega
    have e1 : iI (z : Int) + 1 = iI ((z + 1 : Nat)) := by rw [Z1, iI_add]; congr 1
    obtain ⟨-, -, -, -, -, b6, -, -, -⟩ := hb z (by omega)
    have ih' := ih f (z + 1) (by omega) (by omega)
    unfold lp_X11_inBells_5
    rw [if_pos v52, t52, RF_21, hn, if_neg c0, if_neg (show ¬ (1 : Int32) = 0 from by decide), r_of6 (by omega), bnd2_s, e1]
    by_cases c : a (60 + 8 * z) = 2
    · have h2 : sm (bS a m (stP a 2)) (z + 1) = sm (bS a m (stP a 2)) z + a (54 + 8 * z + m) := by
        show _ + bS a m (stP a 2) z = _
        unfold bS stP; simp [c]
      rw [if_pos (by rw [c]; rfl), r_ofm (by omega) hm, bnd2_s, iI_add, ← h2, ih']
    · have h2 : sm (bS a m (stP a 2)) (z + 1) = sm (bS a m (stP a 2)) z := by
        show _ + bS a m (stP a 2) z = _
        unfold bS stP; simp [c]
      rw [if_neg (by rw [Z2, iI_inj (by omega) (by omega)]; exact c), show iI (sm (bS a m (stP a 2)) z) + 0 = iI (sm (bS a m (stP a 2)) z) by rw [Z0, iI_add, Int.add_zero], ← h2, ih']
theorem sm_two {a : Nat → Int} {m n : Nat} (h : ∀ b, b < n → 0 ≤ a (60 + 8 * b)) : sm (bS a m (stP a 0)) n + sm (bS a m (stP a 1)) n = sm (bS a m (hereP a)) n := by
  induction n with
  | zero => rfl
  | succ n ih =>
    have h1 := ih (fun b hb => h b (by omega))
    have h2 := h n (by omega)
    show _ + bS a m (stP a 0) n + (_ + bS a m (stP a 1) n) = _ + bS a m (hereP a) n
    have h3 : bS a m (stP a 0) n + bS a m (stP a 1) n = bS a m (hereP a) n := by
      unfold bS stP hereP
      simp only [decide_eq_true_eq]
      by_cases c0 : a (60 + 8 * n) = 0
      · rw [if_pos c0, if_neg (by omega), if_pos (by omega)]; omega
      · rw [if_neg c0]
        by_cases c1 : a (60 + 8 * n) = 1
        · rw [if_pos c1, if_pos (by omega)]; omega
        · rw [if_neg c1, if_neg (by omega)]; omega
    omega
def accR (a : Nat → Int) (m : Nat) (Y : Int) : Int := if Y = 0 then a (2 + m) else if Y = 1 then a m else if Y = 2 then a (6 + m) else if Y = 3 then sm (fun i => a (9 + 3 * i + m)) (a 8).toNat else if Y = 4 then sm (bS a m (hereP a)) (a 52).toNat else if Y = 5 then sm (bS a m (stP a 2)) (a 52).toNat else if Y = 6 then a (4 + m) else -1
theorem o_account {k : Int} (x y : Int32) : CALL k (fun M => f_X10_account M x y) (fun M => f_X11_account M x y) := by
  apply both
  intro M a n H L t vc vb
  obtain ⟨X, hX, rfl⟩ := ofI x
  obtain ⟨Y, hY, rfl⟩ := ofI y
  have R := vc.1
  have hM := vb.1.1
  unfold BM at hM
  have hB := vb.1.2.2.2.1
  by_cases hx : 0 ≤ X ∧ X ≤ 1
  · obtain ⟨m, rfl⟩ : ∃ m : Nat, X = m := ⟨X.toNat, by omega⟩
    have hm : m ≤ 1 := by omega
    refine ⟨iI (accR a m Y), a, n, H, L, t, vb.succ, OPC.same vc ?_, fun M1 vr => OPR.go (f := fun M => f_X11_account M (iI m) (iI Y)) vr ?_⟩
    · unfold f_X10_account accR
      rw [e_isMetal hX, bnd2_s, ify hx]
      by_cases h0 : Y = 0
      · subst h0; rw [if_pos (show iI 0 = 0 from rfl), c_of M 0 2 hm, bnd2_s, R.lo (by omega), if_pos rfl]
      rw [if_neg (by rw [Z0, iI_inj hY (by omega)]; exact h0), if_neg h0]
      by_cases h1 : Y = 1
      · subst h1; rw [if_pos (show iI 1 = 1 from rfl), c_of M 0 0 hm, bnd2_s, R.lo (by omega), if_pos rfl, Nat.zero_add]
      rw [if_neg (by rw [Z1, iI_inj hY (by omega)]; exact h1), if_neg h1]
      by_cases h2 : Y = 2
      · subst h2; rw [if_pos (show iI 2 = 2 from rfl), c_of M 0 6 hm, bnd2_s, R.lo (by omega), if_pos rfl]
      rw [if_neg (by rw [Z2, iI_inj hY (by omega)]; exact h2), if_neg h2]
      by_cases h3 : Y = 3
      · subst h3
        have q := l_X2of R hm (nb := (a 8).toNat) (by omega) (a 8).toNat FU 0 (Nat.zero_add _) (by unfold FU; omega)
        rw [if_pos (show iI 3 = 3 from rfl), show f_X2_of M 0 (iI m) = _ from q, bnd2_s, if_pos rfl]
      rw [if_neg (by rw [Z3, iI_inj hY (by omega)]; exact h3), if_neg h3]
      by_cases h4 : Y = 4
      · subst h4
        rw [if_pos (show iI 4 = 4 from rfl), show f_X9_inBells M 0 (iI m) 0 = _ from c_inBells R hm (s := 0) (by omega) hB (by omega), bnd2_s, show f_X9_inBells M 0 (iI m) 1 = _ from c_inBells R hm (s := 1) (by omega) hB (by omega), bnd2_s, iI_add, sm_two (fun b hb => (hB b hb).2.2.2.2.2.1.1), if_pos rfl]
      rw [if_neg (by rw [Z4, iI_inj hY (by omega)]; exact h4), if_neg h4]
      by_cases h5 : Y = 5
      · subst h5
        rw [if_pos (show iI 5 = 5 from rfl), show f_X9_inBells M 0 (iI m) 2 = _ from c_inBells R hm (s := 2) (by omega) hB (by omega), bnd2_s, if_pos rfl]
      rw [if_neg (by rw [Z5, iI_inj hY (by omega)]; exact h5), if_neg h5]
      by_cases h6 : Y = 6
      · subst h6; rw [if_pos (show iI 6 = 6 from rfl), c_of M 0 4 hm, bnd2_s, R.lo (by omega), if_pos rfl]
      rw [if_neg (by rw [Z6, iI_inj hY (by omega)]; exact h6), if_neg h6]; rfl
    · show f_X11_account _ _ _ = _
      have ix : ∀ q : Nat, q < 10 → (iI (q : Int) + iI (m : Int) = iI ((q + m : Nat))) := fun q _ => by rw [iI_add]; congr 1
      have vx : ∀ q : Nat, q < 10 → vin (iI (q : Int) + iI (m : Int)) 1254 := fun q hq => by rw [ix q hq]; exact vinI (by omega) (by omega)
      have tx : ∀ q : Nat, q < 10 → (iI (q : Int) + iI (m : Int)).toNatClampNeg = q + m := fun q hq => by rw [ix q hq]; exact iI_lo (by omega)
      unfold f_X11_account accR
      rw [r_isMetal hX, bnd2_s, ify hx]
      by_cases h0 : Y = 0
      · subst h0; rw [if_pos (show iI 0 = 0 from rfl), if_pos (show vin ((2 : Int32) + iI m) 1254 from vx 2 (by omega)), show ((2 : Int32) + iI m).toNatClampNeg = 2 + m from tx 2 (by omega), RF_21, if_pos rfl]
      rw [if_neg (by rw [Z0, iI_inj hY (by omega)]; exact h0), if_neg h0]
      by_cases h1 : Y = 1
      · subst h1; rw [if_pos (show iI 1 = 1 from rfl), if_pos (show vin ((0 : Int32) + iI m) 1254 from vx 0 (by omega)), show ((0 : Int32) + iI m).toNatClampNeg = 0 + m from tx 0 (by omega), RF_21, if_pos rfl, Nat.zero_add]
      rw [if_neg (by rw [Z1, iI_inj hY (by omega)]; exact h1), if_neg h1]
      by_cases h2 : Y = 2
      · subst h2; rw [if_pos (show iI 2 = 2 from rfl), if_pos (show vin ((6 : Int32) + iI m) 1254 from vx 6 (by omega)), show ((6 : Int32) + iI m).toNatClampNeg = 6 + m from tx 6 (by omega), RF_21, if_pos rfl]
      rw [if_neg (by rw [Z2, iI_inj hY (by omega)]; exact h2), if_neg h2]
      by_cases h3 : Y = 3
      · subst h3
        have q := l_inScrap (M := M1) (a := a) hm (nb := (a 8).toNat) (by omega) (by omega) (a 8).toNat FU 0 (Nat.zero_add _) (by unfold FU; omega)
        rw [if_pos (show iI 3 = 3 from rfl), show f_X11_inScrap (RF M1 a) (iI m) = _ from q, bnd2_s, if_pos rfl]
      rw [if_neg (by rw [Z3, iI_inj hY (by omega)]; exact h3), if_neg h3]
      by_cases h4 : Y = 4
      · subst h4
        have q := l_rInHere (M := M1) (a := a) hm (nb := (a 52).toNat) (by omega) (by omega) hB (a 52).toNat FU 0 (Nat.zero_add _) (by unfold FU; omega)
        rw [if_pos (show iI 4 = 4 from rfl), if_neg (show ¬ iI 4 = 5 from by decide), show f_X11_inBells (RF M1 a) (iI m) 0 = _ from q, bnd2_s, if_pos rfl]
      rw [if_neg (by rw [Z4, iI_inj hY (by omega)]; exact h4), if_neg h4]
      by_cases h5 : Y = 5
      · subst h5
        have q := l_rInSent (M := M1) (a := a) hm (nb := (a 52).toNat) (by omega) (by omega) hB (a 52).toNat FU 0 (Nat.zero_add _) (by unfold FU; omega)
        rw [if_pos (show iI 5 = 5 from rfl), if_pos (show iI 5 = 5 from rfl), show f_X11_inBells (RF M1 a) (iI m) 1 = _ from q, bnd2_s, if_pos rfl]
      rw [if_neg (by rw [Z5, iI_inj hY (by omega)]; exact h5), if_neg h5]
      by_cases h6 : Y = 6
      · subst h6; rw [if_pos (show iI 6 = 6 from rfl), if_pos (show vin ((4 : Int32) + iI m) 1254 from vx 4 (by omega)), show ((4 : Int32) + iI m).toNatClampNeg = 4 + m from tx 4 (by omega), RF_21, if_pos rfl]
      rw [if_neg (by rw [Z6, iI_inj hY (by omega)]; exact h6), if_neg h6]; rfl
  · refine ⟨-1, a, n, H, L, t, vb.succ, OPC.same vc ?_, fun M1 vr => OPR.same vr ?_⟩
    · unfold f_X10_account
      rw [e_isMetal hX, bnd2_s, ifn hx]
    · unfold f_X11_account
      rw [r_isMetal hX, bnd2_s, ifn hx]
def fP (a : Nat → Int) (o : Nat) : Nat → Bool := fun b => decide (fit a b o)
/-- the lowest of the last j of n -/
def lst (P : Nat → Bool) (n : Nat) : Nat → Int
  | 0 => -4
  | j + 1 => if P (n - (j + 1)) then ((n - (j + 1) : Nat) : Int) else lst P n j
/-- how many of the last j of n -/
def lcn (P : Nat → Bool) (n : Nat) : Nat → Nat
  | 0 => 0
  | j + 1 => lcn P n j + (if P (n - (j + 1)) then 1 else 0)
theorem lcn_cn {P : Nat → Bool} {n : Nat} : ∀ j, j ≤ n → cn P (n - j) + lcn P n j = cn P n := by
  intro j
  induction j with
  | zero => intro _; rfl
  | succ j ih =>
    intro h
    have h1 := ih (by omega)
    have h2 : n - j = n - (j + 1) + 1 := by omega
    rw [h2] at h1
    have h3 : cn P (n - (j + 1) + 1) = cn P (n - (j + 1)) + (if P (n - (j + 1)) then 1 else 0) := rfl
    show cn P (n - (j + 1)) + (lcn P n j + (if P (n - (j + 1)) then 1 else 0)) = _
    omega
theorem l_lowest {k : Int} {M : MM} {a : Nat → Int} (R : RA (M 0) (M 40) (M 50) a) {o nb : Nat} (ho : o < (a 53).toNat) (hn : a 52 = nb) (hb : ∀ b, b < nb → BB k a b) (hO : BO a o) : ∀ (j fu : Nat), j ≤ nb → j < fu → lp_X9_lowestBellFor_2 fu M 0 o (iI ((nb - j : Nat))) = some (iI (lst (fP a o) nb j), M) := by
  have hc := R.cb
  intro j
  induction j with
  | zero =>
    intro fu hz hf
    obtain ⟨f, rfl⟩ : ∃ f, fu = f + 1 := ⟨fu - 1, by omega⟩
    unfold lp_X9_lowestBellFor_2
    rw [R.nb, hn, if_pos (by rw [iI_le (by omega) (by omega)]; omega)]; rfl
  | succ j ih =>
    intro fu hz hf
    obtain ⟨f, rfl⟩ : ∃ f, fu = f + 1 := ⟨fu - 1, by omega⟩
    have ih' := ih f (by omega) (by omega)
    obtain ⟨z, hzz⟩ : ∃ z, z = nb - (j + 1) := ⟨_, rfl⟩
    have e1 : iI (z : Int) + 1 = iI ((nb - j : Nat)) := by rw [Z1, iI_add]; congr 1; omega
    have c0 : ¬ iI (nb : Int) ≤ iI (z : Int) := by rw [iI_le (by omega) (by omega)]; omega
    have tz : (iI (z : Int)).toNatClampNeg = z := iI_lo (by omega)
    rw [← hzz]
    unfold lp_X9_lowestBellFor_2
    simp only [R.nb, hn, if_neg c0, if_pos (vinI (show z < 100 by omega) (by omega)), tz, c_isFitBy R (show z < (a 52).toNat by omega) ho (hb z (by omega)) hO, bnd2_s, e1]
    show _ = some (iI (if fP a o (nb - (j + 1)) then ((nb - (j + 1) : Nat) : Int) else lst (fP a o) nb j), M)
    rw [← hzz]
    by_cases c : fit a z o
    · rw [ify c, if_pos (by unfold fP; exact decide_eq_true c)]
    · rw [ifn c, if_neg (by unfold fP; simp only [decide_eq_true_eq]; exact c), ih']
theorem l_bellsFor {k : Int} {M : MM} {a : Nat → Int} (R : RA (M 0) (M 40) (M 50) a) {o nb : Nat} (ho : o < (a 53).toNat) (hn : a 52 = nb) (hb : ∀ b, b < nb → BB k a b) (hO : BO a o) : ∀ (j fu z : Nat), z + j = nb → j < fu → lp_X9_bellsFor_4 fu M 0 o (iI (cn (fP a o) z)) (iI z) = some (iI (cn (fP a o) nb), M) := by
  have hc := R.cb
  intro j
  induction j with
  | zero =>
    intro fu z hz hf
    obtain ⟨f, rfl⟩ : ∃ f, fu = f + 1 := ⟨fu - 1, by omega⟩
    obtain rfl : z = nb := by omega
    unfold lp_X9_bellsFor_4
    rw [R.nb, hn, if_pos (by rw [iI_le (by omega) (by omega)]; omega)]
  | succ j ih =>
    intro fu z hz hf
    obtain ⟨f, rfl⟩ : ∃ f, fu = f + 1 := ⟨fu - 1, by omega⟩
    have ih' := ih f (z + 1) (by omega) (by omega)
    have e1 : iI (z : Int) + 1 = iI ((z + 1 : Nat)) := by rw [Z1, iI_add]; congr 1
    have c0 : ¬ iI (nb : Int) ≤ iI (z : Int) := by rw [iI_le (by omega) (by omega)]; omega
    have tz : (iI (z : Int)).toNatClampNeg = z := iI_lo (by omega)
    unfold lp_X9_bellsFor_4
    simp only [R.nb, hn, if_neg c0, if_pos (vinI (show z < 100 by omega) (by omega)), tz, c_isFitBy R (show z < (a 52).toNat by omega) ho (hb z (by omega)) hO, bnd2_s, e1]
    by_cases c : fit a z o
    · have h2 : cn (fP a o) (z + 1) = cn (fP a o) z + 1 := cn_s (by unfold fP; exact decide_eq_true c)
      have h3 : iI (cn (fP a o) z : Int) + 1 = iI (cn (fP a o) (z + 1) : Int) := by rw [Z1, iI_add, h2]; congr 1
      rw [ify c, h3, ih']
    · have h2 : cn (fP a o) (z + 1) = cn (fP a o) z := cn_f (by unfold fP; simp only [decide_eq_true_eq]; exact c)
      rw [ifn c, ← h2, ih']
theorem l_rOrderOf {k : Int} {M : MM} {a : Nat → Int} {o nb : Nat} (ho : o < 100) (h100 : nb ≤ 100) (hb : ∀ b, b < nb → BB k a b) (hO : BO a o) (y : Int32) : ∀ (i fu j : Nat), j + i = nb → i < fu → lp_X11_orderOf_48 fu (RF M a) (iI o) y (iI (lst (fP a o) nb j)) (iI (lcn (fP a o) nb j)) (iI ((nb : Int) - 1 - j)) = some (if y = 4 then iI (lst (fP a o) nb nb) else iI (lcn (fP a o) nb nb), RF M a) := by
  intro i
  induction i with
  | zero =>
    intro fu j hz hf
    obtain ⟨f, rfl⟩ : ∃ f, fu = f + 1 := ⟨fu - 1, by omega⟩
    obtain rfl : j = nb := by omega
    unfold lp_X11_orderOf_48
    rw [if_pos (by rw [Z0, iI_lt (by omega) (by omega)]; omega)]
    by_cases c : y = 4
    · rw [if_pos c, if_pos c]
    · rw [if_neg c, if_neg c]
  | succ i ih =>
    intro fu j hz hf
    obtain ⟨f, rfl⟩ : ∃ f, fu = f + 1 := ⟨fu - 1, by omega⟩
    have ih' := ih f (j + 1) (by omega) (by omega)
    obtain ⟨z, hzz⟩ : ∃ z, z = nb - (j + 1) := ⟨_, rfl⟩
    have ez : ((nb : Int) - 1 - j) = (z : Int) := by omega
    have e1 : iI (z : Int) + -1 = iI ((nb : Int) - 1 - ((j + 1 : Nat) : Int)) := by rw [Zm1, iI_add]; congr 1; omega
    have c0 : ¬ iI (z : Int) < 0 := by rw [Z0, iI_lt (by omega) (by omega)]; omega
    rw [ez]
    unfold lp_X11_orderOf_48
    rw [if_neg c0]
    simp only [r_fits (show z < 100 by omega) ho (hb z (by omega)) hO, bnd2_s, e1]
    have q1 : lst (fP a o) nb (j + 1) = if fP a o (nb - (j + 1)) then ((nb - (j + 1) : Nat) : Int) else lst (fP a o) nb j := rfl
    have q2 : lcn (fP a o) nb (j + 1) = lcn (fP a o) nb j + (if fP a o (nb - (j + 1)) then 1 else 0) := rfl
    rw [← hzz] at q1 q2
    by_cases c : fit a z o
    · have hp : fP a o z = true := by unfold fP; exact decide_eq_true c
      rw [if_pos hp] at q1 q2
      rw [ify c, ify c, show iI (lcn (fP a o) nb j : Int) + 1 = iI (lcn (fP a o) nb (j + 1) : Int) by rw [Z1, iI_add, q2]; congr 1, ← q1, ih']
    · have hp : ¬ fP a o z = true := by unfold fP; simp only [decide_eq_true_eq]; exact c
      rw [if_neg hp] at q1 q2
      rw [ifn c, ifn c, show iI (lcn (fP a o) nb j : Int) + 0 = iI (lcn (fP a o) nb (j + 1) : Int) by rw [Z0, iI_add, q2]; congr 1, ← q1, ih']
theorem o_orderOf {k : Int} (x y : Int32) : CALL k (fun M => f_X10_orderOf M x y) (fun M => f_X11_orderOf M x y) := by
  apply both
  intro M a n H L t vc vb
  obtain ⟨X, hX, rfl⟩ := ofI x
  obtain ⟨Y, hY, rfl⟩ := ofI y
  have R := vc.1
  have hM := vb.1.1
  unfold BM at hM
  have hB := vb.1.2.2.2.1
  by_cases hx : 0 ≤ X ∧ X ≤ a 53 - 1
  · obtain ⟨o, rfl⟩ : ∃ j : Nat, X = j := ⟨X.toNat, by omega⟩
    have ho : o < (a 53).toNat := by omega
    have Bo := vb.1.2.2.2.2.1 o ho
    by_cases hy : 0 ≤ Y ∧ Y ≤ 5
    · refine ⟨if Y = 0 then iI (a (854 + 4 * o)) else if Y = 1 then iI (a (855 + 4 * o)) else if Y = 2 then iI (a (856 + 4 * o)) else if Y = 3 then iI (a (857 + 4 * o)) else if Y = 4 then iI (lst (fP a o) (a 52).toNat (a 52).toNat) else iI (cn (fP a o) (a 52).toNat), a, n, H, L, t, vb.succ, OPC.same vc ?_, fun M1 vr => OPR.go (f := fun M => f_X11_orderOf M (iI o) (iI Y)) vr ?_⟩
      · unfold f_X10_orderOf optE
        rw [orderAt_some R ho, bnd2_s]
        simp only
        have hq : Y = 0 ∨ Y = 1 ∨ Y = 2 ∨ Y = 3 ∨ Y = 4 ∨ Y = 5 := by omega
        rcases hq with rfl | rfl | rfl | rfl | rfl | rfl
        · rw [if_pos (show iI 0 = 0 from rfl), R.o0 ho]; rfl
        · rw [if_neg (show ¬ iI 1 = 0 from by decide), if_pos (show iI 1 = 1 from rfl), R.o1 ho]; rfl
        · rw [if_neg (show ¬ iI 2 = 0 from by decide), if_neg (show ¬ iI 2 = 1 from by decide), if_pos (show iI 2 = 2 from rfl), R.o2 ho]; rfl
        · rw [if_neg (show ¬ iI 3 = 0 from by decide), if_neg (show ¬ iI 3 = 1 from by decide), if_neg (show ¬ iI 3 = 2 from by decide), if_pos (show iI 3 = 3 from rfl), R.o3 ho]; rfl
        · have q := l_lowest R ho (nb := (a 52).toNat) (by omega) hB Bo (a 52).toNat FU (Nat.le_refl _) (by unfold FU; omega)
          rw [Nat.sub_self] at q
          rw [if_neg (show ¬ iI 4 = 0 from by decide), if_neg (show ¬ iI 4 = 1 from by decide), if_neg (show ¬ iI 4 = 2 from by decide), if_neg (show ¬ iI 4 = 3 from by decide), if_pos (show iI 4 = 4 from rfl), show f_X9_lowestBellFor M 0 o = _ from q, bnd2_s]; rfl
        · have q := l_bellsFor R ho (nb := (a 52).toNat) (by omega) hB Bo (a 52).toNat FU 0 (Nat.zero_add _) (by unfold FU; omega)
          rw [if_neg (show ¬ iI 5 = 0 from by decide), if_neg (show ¬ iI 5 = 1 from by decide), if_neg (show ¬ iI 5 = 2 from by decide), if_neg (show ¬ iI 5 = 3 from by decide), if_neg (show ¬ iI 5 = 4 from by decide), if_pos (show iI 5 = 5 from rfl), show f_X9_bellsFor M 0 o = _ from q, bnd2_s]; rfl
      · show f_X11_orderOf _ _ _ = _
        unfold f_X11_orderOf
        rw [r_isOrder hX (by omega), bnd2_s, ify hx, r_inL 0 5 hY Z0 Z5 (by omega) (by omega), bnd2_s, ify hy]
        have hq : Y = 0 ∨ Y = 1 ∨ Y = 2 ∨ Y = 3 ∨ Y = 4 ∨ Y = 5 := by omega
        have v52 : vin (52 : Int32) 1254 := by decide
        have t52 : (52 : Int32).toNatClampNeg = 52 := by decide
        have e52 : iI (a 52) - 1 = iI (((a 52).toNat : Int) - 1 - (0 : Nat)) := by rw [Z1, iI_sub]; congr 1; omega
        have q := fun y => l_rOrderOf (M := M1) (a := a) (o := o) (nb := (a 52).toNat) (by omega) (by omega) hB Bo y (a 52).toNat FU 0 (Nat.zero_add _) (by unfold FU; omega)
        have hl := lcn_cn (P := fP a o) (n := (a 52).toNat) (a 52).toNat (Nat.le_refl _)
        rw [Nat.sub_self, show cn (fP a o) 0 = 0 from rfl, Nat.zero_add] at hl
        rcases hq with rfl | rfl | rfl | rfl | rfl | rfl
        · rw [if_neg (show ¬ 4 ≤ iI 0 from by decide), show iI 0 = 0 from rfl, r_oo0 (by omega), bnd2_s]; rfl
        · rw [if_neg (show ¬ 4 ≤ iI 1 from by decide), show iI 1 = 1 from rfl, r_oo1 (by omega), bnd2_s]; rfl
        · rw [if_neg (show ¬ 4 ≤ iI 2 from by decide), show iI 2 = 2 from rfl, r_oo2 (by omega), bnd2_s]; rfl
        · rw [if_neg (show ¬ 4 ≤ iI 3 from by decide), show iI 3 = 3 from rfl, r_oo3 (by omega), bnd2_s]; rfl
        · rw [if_pos (show 4 ≤ iI 4 from by decide), if_pos v52, t52, RF_21, e52]
          refine (q (iI 4)).trans ?_
          rw [if_pos (show iI 4 = 4 from rfl)]; rfl
        · rw [if_pos (show 4 ≤ iI 5 from by decide), if_pos v52, t52, RF_21, e52]
          refine (q (iI 5)).trans ?_
          rw [if_neg (show ¬ iI 5 = 4 from by decide), hl]; rfl
    · refine ⟨-1, a, n, H, L, t, vb.succ, OPC.same vc ?_, fun M1 vr => OPR.go (f := fun M => f_X11_orderOf M (iI o) (iI Y)) vr ?_⟩
      · unfold f_X10_orderOf optE
        rw [orderAt_some R ho, bnd2_s]
        simp only
        rw [if_neg (by rw [Z0, iI_inj hY (by omega)]; omega), if_neg (by rw [Z1, iI_inj hY (by omega)]; omega), if_neg (by rw [Z2, iI_inj hY (by omega)]; omega), if_neg (by rw [Z3, iI_inj hY (by omega)]; omega), if_neg (by rw [Z4, iI_inj hY (by omega)]; omega), if_neg (by rw [Z5, iI_inj hY (by omega)]; omega)]
      · show f_X11_orderOf _ _ _ = _
        unfold f_X11_orderOf
        rw [r_isOrder hX (by omega), bnd2_s, ify hx, r_inL 0 5 hY Z0 Z5 (by omega) (by omega), bnd2_s, ifn hy]
  · refine ⟨-1, a, n, H, L, t, vb.succ, OPC.same vc ?_, fun M1 vr => OPR.go (f := fun M => f_X11_orderOf M (iI X) (iI Y)) vr ?_⟩
    · unfold f_X10_orderOf
      rw [orderAt_none R (by omega) hX hx, bnd2_s]; rfl
    · show f_X11_orderOf _ _ _ = _
      unfold f_X11_orderOf
      rw [r_isOrder hX (by omega), bnd2_s, ifn hx]
