/-! The calls: account, orderOf. -/
theorem l_X2of {M : MM} {a : Nat → Int} (R : RA (M 0) (M 40) (M 50) a) {m : Nat} (hm : m ≤ 1) {nb : Nat} (hn : a 8 = nb) : ∀ (j fu z : Nat), z + j = nb → j < fu → lp_X2_of_4 fu M 0 (iI m) (iI (sm (fun i => a (9 + 3 * i + m)) z)) (iI z) = some (iI (sm (fun i => a (9 + 3 * i + m)) nb), M) := by
  have hc := R.cb
  intro j
  induction j with
  | zero =>
    intro fu z hz hf
    obtain ⟨f, rfl⟩ : ∃ f, fu = f + 1 := ⟨fu - 1, by omega⟩
    obtain rfl : z = nb := by omega
    unfold lp_X2_of_4
    rw [R.lo (q := 8) (by omega), hn, if_pos (by rw [iI_le (by omega) (by omega)]; omega)]
  | succ j ih =>
    intro fu z hz hf
    obtain ⟨f, rfl⟩ : ∃ f, fu = f + 1 := ⟨fu - 1, by omega⟩
    have tz : (iI (z : Int)).toNatClampNeg = z := iI_lo (by omega)
    have c0 : ¬ iI (nb : Int) ≤ iI (z : Int) := by rw [iI_le (by omega) (by omega)]; omega
    have e1 : iI (z : Int) + 1 = iI ((z + 1 : Nat)) := by rw [Z1, iI_add]; congr 1
    have hp : (M 50 z).toNatClampNeg < 12 := R.1.1 z (by omega)
    have el : M 0 (9 + 3 * (M 50 z).toNatClampNeg + m) = iI (a (9 + 3 * z + m)) := R.lt (i := z) (by omega) (f := m) (by omega)
    unfold lp_X2_of_4
    simp only [R.lo (q := 8) (by omega), hn, if_neg c0, if_pos (vinI (show z < 12 by omega) (by omega)), tz, Nat.add_zero, if_pos hp, c_of M 0 _ hm, bnd2_s, el, iI_add, e1]
    exact ih f (z + 1) (by omega) (by omega)
def bS (a : Nat → Int) (m : Nat) (P : Nat → Bool) : Nat → Int := fun b => if P b then a (54 + 8 * b + m) else 0
theorem l_cInBells {k : Int} {M : MM} {a : Nat → Int} (R : RA (M 0) (M 40) (M 50) a) {m : Nat} (hm : m ≤ 1) {nb : Nat} (hn : a 52 = nb) (hb : ∀ b, b < nb → BB k a b) {s : Int} (hs : B31 s) : ∀ (j fu z : Nat), z + j = nb → j < fu → lp_X9_inBells_5 fu M 0 (iI m) (iI s) (iI (sm (bS a m (stP a s)) z)) (iI z) = some (iI (sm (bS a m (stP a s)) nb), M) := by
  have hc := R.cb
  intro j
  induction j with
  | zero =>
    intro fu z hz hf
    obtain ⟨f, rfl⟩ : ∃ f, fu = f + 1 := ⟨fu - 1, by omega⟩
    obtain rfl : z = nb := by omega
    unfold lp_X9_inBells_5
    rw [R.nb, hn, if_pos (by rw [iI_le (by omega) (by omega)]; omega)]
  | succ j ih =>
    intro fu z hz hf
    obtain ⟨f, rfl⟩ : ∃ f, fu = f + 1 := ⟨fu - 1, by omega⟩
    have tz : (iI (z : Int)).toNatClampNeg = z := iI_lo (by omega)
    have c0 : ¬ iI (nb : Int) ≤ iI (z : Int) := by rw [iI_le (by omega) (by omega)]; omega
    have e1 : iI (z : Int) + 1 = iI ((z + 1 : Nat)) := by rw [Z1, iI_add]; congr 1
    have e6 := R.b6 (b := z) (by omega)
    have em : M 0 (54 + 8 * z + m) = iI (a (54 + 8 * z + m)) := R.bf (by omega) (by omega)
    obtain ⟨-, -, -, -, -, b6, -, -, -⟩ := hb z (by omega)
    unfold lp_X9_inBells_5
    simp only [R.nb, hn, if_neg c0, if_pos (vinI (show z < 100 by omega) (by omega)), tz, e6, e1, c_of M 0 _ hm, bnd2_s, em, iI_add]
    have ih' := ih f (z + 1) (by omega) (by omega)
    by_cases c : a (60 + 8 * z) = s
    · have h2 : sm (bS a m (stP a s)) (z + 1) = sm (bS a m (stP a s)) z + a (54 + 8 * z + m) := by
        show _ + bS a m (stP a s) z = _
        unfold bS stP; simp [c]
      rw [if_pos (by rw [c]), ← h2, ih']
    · have h2 : sm (bS a m (stP a s)) (z + 1) = sm (bS a m (stP a s)) z := by
        show _ + bS a m (stP a s) z = _
        unfold bS stP; simp [c]
      rw [if_neg (by rw [iI_inj (by omega) hs]; exact c), ← h2, ih']
theorem c_inBells {k : Int} {M : MM} {a : Nat → Int} (R : RA (M 0) (M 40) (M 50) a) {m : Nat} (hm : m ≤ 1) (h0 : 0 ≤ a 52) (hb : ∀ b, b < (a 52).toNat → BB k a b) {s : Int} (hs : B31 s) : f_X9_inBells M 0 (iI m) (iI s) = some (iI (sm (bS a m (stP a s)) (a 52).toNat), M) := by
  have hc := R.cb
  exact l_cInBells R hm (by omega) hb hs _ FU 0 (Nat.zero_add _) (by unfold FU; omega)
theorem sm_two {a : Nat → Int} {m n : Nat} (h : ∀ b, b < n → 0 ≤ a (60 + 8 * b)) : sm (bS a m (stP a 0)) n + sm (bS a m (stP a 1)) n = sm (bS a m (hereP a)) n := by
  induction n with
  | zero => rfl
  | succ n ih =>
    have h1 := ih (fun b hb => h b (by omega))
    have h2 := h n (by omega)
    show _ + bS a m (stP a 0) n + (_ + bS a m (stP a 1) n) = _ + bS a m (hereP a) n
    have h3 : bS a m (stP a 0) n + bS a m (stP a 1) n = bS a m (hereP a) n := by
      unfold bS stP hereP
      simp only [decide_eq_true_eq]
      by_cases c0 : a (60 + 8 * n) = 0
      · rw [if_pos c0, if_neg (by omega), if_pos (by omega)]; omega
      · rw [if_neg c0]
        by_cases c1 : a (60 + 8 * n) = 1
        · rw [if_pos c1, if_pos (by omega)]; omega
        · rw [if_neg c1, if_neg (by omega)]; omega
    omega
def accR (a : Nat → Int) (m : Nat) (Y : Int) : Int := if Y = 0 then a (2 + m) else if Y = 1 then a m else if Y = 2 then a (6 + m) else if Y = 3 then sm (fun i => a (9 + 3 * i + m)) (a 8).toNat else if Y = 4 then sm (bS a m (hereP a)) (a 52).toNat else if Y = 5 then sm (bS a m (stP a 2)) (a 52).toNat else if Y = 6 then a (4 + m) else -1
def fP (a : Nat → Int) (o : Nat) : Nat → Bool := fun b => decide (fit a b o)
/-- the lowest of the last j of n -/
def lst (P : Nat → Bool) (n : Nat) : Nat → Int
  | 0 => -4
  | j + 1 => if P (n - (j + 1)) then ((n - (j + 1) : Nat) : Int) else lst P n j
/-- how many of the last j of n -/
def lcn (P : Nat → Bool) (n : Nat) : Nat → Nat
  | 0 => 0
  | j + 1 => lcn P n j + (if P (n - (j + 1)) then 1 else 0)
theorem lcn_cn {P : Nat → Bool} {n : Nat} : ∀ j, j ≤ n → cn P (n - j) + lcn P n j = cn P n := by
  intro j
  induction j with
  | zero => intro _; rfl
  | succ j ih =>
    intro h
    have h1 := ih (by omega)
    have h2 : n - j = n - (j + 1) + 1 := by omega
    rw [h2] at h1
    have h3 : cn P (n - (j + 1) + 1) = cn P (n - (j + 1)) + (if P (n - (j + 1)) then 1 else 0) := rfl
    show cn P (n - (j + 1)) + (lcn P n j + (if P (n - (j + 1)) then 1 else 0)) = _
    omega
theorem l_lowest {k : Int} {M : MM} {a : Nat → Int} (R : RA (M 0) (M 40) (M 50) a) {o nb : Nat} (ho : o < (a 53).toNat) (hn : a 52 = nb) (hb : ∀ b, b < nb → BB k a b) (hO : BO a o) : ∀ (j fu : Nat), j ≤ nb → j < fu → lp_X9_lowestBellFor_2 fu M 0 o (iI ((nb - j : Nat))) = some (iI (lst (fP a o) nb j), M) := by
  have hc := R.cb
  intro j
  induction j with
  | zero =>
    intro fu hz hf
    obtain ⟨f, rfl⟩ : ∃ f, fu = f + 1 := ⟨fu - 1, by omega⟩
    unfold lp_X9_lowestBellFor_2
    rw [R.nb, hn, if_pos (by rw [iI_le (by omega) (by omega)]; omega)]; rfl
  | succ j ih =>
    intro fu hz hf
    obtain ⟨f, rfl⟩ : ∃ f, fu = f + 1 := ⟨fu - 1, by omega⟩
    have ih' := ih f (by omega) (by omega)
    obtain ⟨z, hzz⟩ : ∃ z, z = nb - (j + 1) := ⟨_, rfl⟩
    have e1 : iI (z : Int) + 1 = iI ((nb - j : Nat)) := by rw [Z1, iI_add]; congr 1; omega
    have c0 : ¬ iI (nb : Int) ≤ iI (z : Int) := by rw [iI_le (by omega) (by omega)]; omega
    have tz : (iI (z : Int)).toNatClampNeg = z := iI_lo (by omega)
    rw [← hzz]
    unfold lp_X9_lowestBellFor_2
    simp only [R.nb, hn, if_neg c0, if_pos (vinI (show z < 100 by omega) (by omega)), tz, c_isFitBy R (show z < (a 52).toNat by omega) ho (hb z (by omega)) hO, bnd2_s, e1]
    show _ = some (iI (if fP a o (nb - (j + 1)) then ((nb - (j + 1) : Nat) : Int) else lst (fP a o) nb j), M)
    rw [← hzz]
    by_cases c : fit a z o
    · rw [ify c, if_pos (by unfold fP; exact decide_eq_true c)]
    · rw [ifn c, if_neg (by unfold fP; simp only [decide_eq_true_eq]; exact c), ih']
theorem l_bellsFor {k : Int} {M : MM} {a : Nat → Int} (R : RA (M 0) (M 40) (M 50) a) {o nb : Nat} (ho : o < (a 53).toNat) (hn : a 52 = nb) (hb : ∀ b, b < nb → BB k a b) (hO : BO a o) : ∀ (j fu z : Nat), z + j = nb → j < fu → lp_X9_bellsFor_4 fu M 0 o (iI (cn (fP a o) z)) (iI z) = some (iI (cn (fP a o) nb), M) := by
  have hc := R.cb
  intro j
  induction j with
  | zero =>
    intro fu z hz hf
    obtain ⟨f, rfl⟩ : ∃ f, fu = f + 1 := ⟨fu - 1, by omega⟩
    obtain rfl : z = nb := by omega
    unfold lp_X9_bellsFor_4
    rw [R.nb, hn, if_pos (by rw [iI_le (by omega) (by omega)]; omega)]
  | succ j ih =>
    intro fu z hz hf
    obtain ⟨f, rfl⟩ : ∃ f, fu = f + 1 := ⟨fu - 1, by omega⟩
    have ih' := ih f (z + 1) (by omega) (by omega)
    have e1 : iI (z : Int) + 1 = iI ((z + 1 : Nat)) := by rw [Z1, iI_add]; congr 1
    have c0 : ¬ iI (nb : Int) ≤ iI (z : Int) := by rw [iI_le (by omega) (by omega)]; omega
    have tz : (iI (z : Int)).toNatClampNeg = z := iI_lo (by omega)
    unfold lp_X9_bellsFor_4
    simp only [R.nb, hn, if_neg c0, if_pos (vinI (show z < 100 by omega) (by omega)), tz, c_isFitBy R (show z < (a 52).toNat by omega) ho (hb z (by omega)) hO, bnd2_s, e1]
    by_cases c : fit a z o
    · have h2 : cn (fP a o) (z + 1) = cn (fP a o) z + 1 := cn_s (by unfold fP; exact decide_eq_true c)
      have h3 : iI (cn (fP a o) z : Int) + 1 = iI (cn (fP a o) (z + 1) : Int) := by rw [Z1, iI_add, h2]; congr 1
      rw [ify c, h3, ih']
    · have h2 : cn (fP a o) (z + 1) = cn (fP a o) z := cn_f (by unfold fP; simp only [decide_eq_true_eq]; exact c)
      rw [ifn c, ← h2, ih']
