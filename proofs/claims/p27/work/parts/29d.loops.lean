/-! Counting and adding up; orders. -/
def stP (a : Nat → Int) (s : Int) : Nat → Bool := fun b => decide (a (60 + 8 * b) = s)
def orP (a : Nat → Int) (s : Int) : Nat → Bool := fun o => decide (a (857 + 4 * o) = s)
def sm (f : Nat → Int) : Nat → Int
  | 0 => 0
  | n + 1 => sm f n + f n
theorem cn_s {P : Nat → Bool} {n : Nat} (h : P n = true) : cn P (n + 1) = cn P n + 1 := by
  show cn P n + (if P n then 1 else 0) = _
  rw [if_pos h]
theorem cn_f {P : Nat → Bool} {n : Nat} (h : ¬ P n = true) : cn P (n + 1) = cn P n := by
  show cn P n + (if P n then 1 else 0) = _
  rw [if_neg h]; rfl
theorem cn_imp {P Q : Nat → Bool} {n : Nat} (h : ∀ i, i < n → P i = true → Q i = true) : cn P n ≤ cn Q n := by
  induction n with
  | zero => exact Nat.le_refl _
  | succ n ih =>
    have := ih (fun i hi => h i (by omega))
    by_cases c : P n = true
    · rw [cn_s c, cn_s (h n (by omega) c)]; omega
    · rw [cn_f c]; have : cn Q n ≤ cn Q (n + 1) := cn_mono Q (by omega); omega
theorem cn_two {P Q R : Nat → Bool} {n : Nat} (h : ∀ i, i < n → (P i = true → Q i = true ∧ ¬ R i = true) ∧ (¬ P i = true → (Q i = true ↔ R i = true))) : cn P n + cn R n = cn Q n := by
  induction n with
  | zero => rfl
  | succ n ih =>
    have h1 := ih (fun i hi => h i (by omega))
    obtain ⟨g1, g2⟩ := h n (by omega)
    by_cases c : P n = true
    · rw [cn_s c, cn_s (g1 c).1, cn_f (g1 c).2]; omega
    · rw [cn_f c]
      by_cases d : R n = true
      · rw [cn_s d, cn_s ((g2 c).mpr d)]; omega
      · rw [cn_f d, cn_f (fun q => d ((g2 c).mp q))]; omega
theorem here_two {a : Nat → Int} {n : Nat} (h : ∀ b, b < n → 0 ≤ a (60 + 8 * b)) : cn (stP a 0) n + cn (stP a 1) n = cn (hereP a) n := by
  refine cn_two (fun i hi => ?_)
  have := h i hi
  unfold stP hereP
  simp only [decide_eq_true_eq]
  omega
theorem l_bellsIn {k : Int} {M : MM} {a : Nat → Int} (R : RA (M 0) (M 40) (M 50) a) {nb : Nat} (hn : a 52 = nb) (hb : ∀ b, b < nb → BB k a b) {s : Int} (hs : B31 s) : ∀ (j fu z : Nat), z + j = nb → j < fu → lp_X9_bellsIn_4 fu M 0 (iI s) (iI (cn (stP a s) z)) (iI z) = some (iI (cn (stP a s) nb), M) := by
  have hc := R.cb
  intro j
  induction j with
  | zero =>
    intro fu z hz hf
    obtain ⟨f, rfl⟩ : ∃ f, fu = f + 1 := ⟨fu - 1, by omega⟩
    obtain rfl : z = nb := by omega
    unfold lp_X9_bellsIn_4
    rw [R.nb, hn, if_pos (by rw [iI_le (by omega) (by omega)]; omega)]
  | succ j ih =>
    intro fu z hz hf
    obtain ⟨f, rfl⟩ : ∃ f, fu = f + 1 := ⟨fu - 1, by omega⟩
    have tz : (iI (z : Int)).toNatClampNeg = z := iI_lo (by omega)
    have c0 : ¬ iI (nb : Int) ≤ iI (z : Int) := by rw [iI_le (by omega) (by omega)]; omega
    have e1 : iI (z : Int) + 1 = iI ((z + 1 : Nat)) := by rw [Z1, iI_add]; congr 1
    have e6 := R.b6 (b := z) (by omega)
    obtain ⟨-, -, -, -, -, b6, -, -, -⟩ := hb z (by omega)
    unfold lp_X9_bellsIn_4
    simp only [R.nb, hn, if_neg c0, if_pos (vinI (show z < 100 by omega) (by omega)), tz, e6, e1]
    by_cases c : a (60 + 8 * z) = s
    · have h2 : cn (stP a s) (z + 1) = cn (stP a s) z + 1 := cn_s (by unfold stP; simp [c])
      have h3 : iI (cn (stP a s) z : Int) + 1 = iI (cn (stP a s) (z + 1) : Int) := by rw [Z1, iI_add, h2]; congr 1
      rw [if_pos (by rw [c]), h3, ih f (z + 1) (by omega) (by omega)]
    · have h2 : cn (stP a s) (z + 1) = cn (stP a s) z := cn_f (by unfold stP; simp [c])
      rw [if_neg (by rw [iI_inj (by omega) hs]; exact c), ← h2, ih f (z + 1) (by omega) (by omega)]
theorem c_bellsIn {k : Int} {M : MM} {a : Nat → Int} (R : RA (M 0) (M 40) (M 50) a) (h0 : 0 ≤ a 52) (hb : ∀ b, b < (a 52).toNat → BB k a b) {s : Int} (hs : B31 s) : f_X9_bellsIn M 0 (iI s) = some (iI (cn (stP a s) (a 52).toNat), M) := by
  have hc := R.cb
  exact l_bellsIn R (by omega) hb hs _ FU 0 (Nat.zero_add _) (by unfold FU; omega)
theorem c_remaining {k : Int} {M : MM} {a : Nat → Int} (R : RA (M 0) (M 40) (M 50) a) (h0 : 0 ≤ a 52) (hb : ∀ b, b < (a 52).toNat → BB k a b) : f_X9_remainingBells M 0 = some (iI (hereN a), M) := by
  unfold f_X9_remainingBells
  rw [Z0, c_bellsIn R h0 hb (by omega), bnd2_s, Z1, c_bellsIn R h0 hb (by omega), bnd2_s, iI_add, hereN, ← here_two (fun b hb' => (hb b hb').2.2.2.2.2.1.1)]
  rfl
theorem l_ordersIn {M : MM} {a : Nat → Int} (R : RA (M 0) (M 40) (M 50) a) {nb : Nat} (hn : a 53 = nb) (hb : ∀ b, b < nb → BO a b) {s : Int} (hs : B31 s) : ∀ (j fu z : Nat), z + j = nb → j < fu → lp_X9_ordersIn_4 fu M 0 (iI s) (iI (cn (orP a s) z)) (iI z) = some (iI (cn (orP a s) nb), M) := by
  have hc := R.cb
  intro j
  induction j with
  | zero =>
    intro fu z hz hf
    obtain ⟨f, rfl⟩ : ∃ f, fu = f + 1 := ⟨fu - 1, by omega⟩
    obtain rfl : z = nb := by omega
    unfold lp_X9_ordersIn_4
    rw [R.no, hn, if_pos (by rw [iI_le (by omega) (by omega)]; omega)]
  | succ j ih =>
    intro fu z hz hf
    obtain ⟨f, rfl⟩ : ∃ f, fu = f + 1 := ⟨fu - 1, by omega⟩
    have tz : (iI (z : Int)).toNatClampNeg = z := iI_lo (by omega)
    have c0 : ¬ iI (nb : Int) ≤ iI (z : Int) := by rw [iI_le (by omega) (by omega)]; omega
    have e1 : iI (z : Int) + 1 = iI ((z + 1 : Nat)) := by rw [Z1, iI_add]; congr 1
    have e6 := R.o3 (o := z) (by omega)
    obtain ⟨-, -, -, b6⟩ := hb z (by omega)
    unfold lp_X9_ordersIn_4
    simp only [R.no, hn, if_neg c0, if_pos (vinI (show z < 100 by omega) (by omega)), tz, e6, e1]
    by_cases c : a (857 + 4 * z) = s
    · have h2 : cn (orP a s) (z + 1) = cn (orP a s) z + 1 := cn_s (by unfold orP; simp [c])
      have h3 : iI (cn (orP a s) z : Int) + 1 = iI (cn (orP a s) (z + 1) : Int) := by rw [Z1, iI_add, h2]; congr 1
      rw [if_pos (by rw [c]), h3, ih f (z + 1) (by omega) (by omega)]
    · have h2 : cn (orP a s) (z + 1) = cn (orP a s) z := cn_f (by unfold orP; simp [c])
      rw [if_neg (by rw [iI_inj (by omega) hs]; exact c), ← h2, ih f (z + 1) (by omega) (by omega)]
theorem c_ordersIn {M : MM} {a : Nat → Int} (R : RA (M 0) (M 40) (M 50) a) (h0 : 0 ≤ a 53) (hb : ∀ b, b < (a 53).toNat → BO a b) {s : Int} (hs : B31 s) : f_X9_ordersIn M 0 (iI s) = some (iI (cn (orP a s) (a 53).toNat), M) := by
  have hc := R.cb
  exact l_ordersIn R (by omega) hb hs _ FU 0 (Nat.zero_add _) (by unfold FU; omega)
theorem BB.congr {k : Int} {a a' : Nat → Int} {b : Nat} (e : ∀ q, 54 + 8 * b ≤ q → q < 62 + 8 * b → a' q = a q) (h : BB k a b) : BB k a' b := by
  unfold BB at h ⊢
  rw [e (54 + 8 * b) (by omega) (by omega), e (55 + 8 * b) (by omega) (by omega), e (56 + 8 * b) (by omega) (by omega), e (57 + 8 * b) (by omega) (by omega), e (58 + 8 * b) (by omega) (by omega), e (59 + 8 * b) (by omega) (by omega), e (60 + 8 * b) (by omega) (by omega), e (61 + 8 * b) (by omega) (by omega)]
  exact h
theorem BL.congr {k : Int} {a a' : Nat → Int} {i : Nat} (e : ∀ q, 9 + 3 * i ≤ q → q < 12 + 3 * i → a' q = a q) (h : BL k a i) : BL k a' i := by
  unfold BL at h ⊢
  rw [e (9 + 3 * i) (by omega) (by omega), e (10 + 3 * i) (by omega) (by omega), e (11 + 3 * i) (by omega) (by omega)]
  exact h
theorem BO.congr {a a' : Nat → Int} {o : Nat} (e : ∀ q, 854 + 4 * o ≤ q → q < 858 + 4 * o → a' q = a q) (h : BO a o) : BO a' o := by
  unfold BO at h ⊢
  rw [e (854 + 4 * o) (by omega) (by omega), e (855 + 4 * o) (by omega) (by omega), e (856 + 4 * o) (by omega) (by omega), e (857 + 4 * o) (by omega) (by omega)]
  exact h
theorem BS.congr {a a' : Nat → Int} (e : ∀ q, 45 ≤ q → q < 52 → a' q = a q) (h : BS a) : BS a' := by
  unfold BS at h ⊢
  rw [e 45 (by omega) (by omega), e 46 (by omega) (by omega), e 47 (by omega) (by omega), e 48 (by omega) (by omega), e 49 (by omega) (by omega), e 50 (by omega) (by omega), e 51 (by omega) (by omega)]
  exact h
theorem BM.congr {a a' : Nat → Int} (e : ∀ q, q < 9 → a' q = a q) (e52 : a' 52 = a 52) (e53 : a' 53 = a 53) (h : BM a) : BM a' := by
  unfold BM at h ⊢
  rw [e 0 (by omega), e 1 (by omega), e 6 (by omega), e 7 (by omega), e 8 (by omega), e52, e53]
  exact h
theorem Bd.order {k k' : Int} {a a' : Nat → Int} {o : Nat} (h : Bd k a) (hk : k ≤ k') (hoo : o < 100) (e : ∀ q, (q < 854 + 4 * o ∨ 858 + 4 * o ≤ q) → a' q = a q) (ho : BO a' o) (hs : a' (857 + 4 * o) = 0 → a (857 + 4 * o) = 0) : Bd k' a' := by
  obtain ⟨h1, h2, h3, h4, h5, h6, h7⟩ := h.mono hk
  have e52 := e 52 (by omega)
  have e53 := e 53 (by omega)
  refine ⟨h1.congr (fun q hq => e q (by omega)) e52 e53, h2.congr (fun q _ _ => e q (by omega)), fun i hi => (h3 i hi).congr (fun q _ _ => e q (by omega)), fun b hb => ?_, fun o' ho' => ?_, ?_, ?_⟩
  · rw [e52] at hb
    unfold BM at h1
    exact (h4 b hb).congr (fun q _ _ => e q (by omega))
  · rw [e53] at ho'
    by_cases c : o' = o
    · rw [c]; exact ho
    · exact (h5 o' ho').congr (fun q _ _ => e q (by omega))
  · unfold BM at h1
    unfold hereN at h6 ⊢
    rw [e52, cn_congr (Q := hereP a) (fun i hi => by unfold hereP; rw [e _ (by omega)])]
    exact h6
  · unfold openN at h7 ⊢
    rw [e53]
    refine Nat.le_trans (cn_imp (Q := openP a) (fun i hi hp => ?_)) h7
    unfold openP at hp ⊢
    simp only [decide_eq_true_eq] at hp ⊢
    by_cases c : i = o
    · subst c; exact hs hp
    · rw [e _ (by omega)] at hp; exact hp
theorem Bd.bell {k k' : Int} {a a' : Nat → Int} {b : Nat} (h : Bd k a) (hk : k ≤ k') (hbb : b < 100) (e : ∀ q, (q < 54 + 8 * b ∨ 62 + 8 * b ≤ q) → a' q = a q) (hb : BB k' a' b) (hs : a' (60 + 8 * b) < 2 → a (60 + 8 * b) < 2) : Bd k' a' := by
  obtain ⟨h1, h2, h3, h4, h5, h6, h7⟩ := h.mono hk
  have e52 := e 52 (by omega)
  have e53 := e 53 (by omega)
  refine ⟨h1.congr (fun q hq => e q (by omega)) e52 e53, h2.congr (fun q _ _ => e q (by omega)), fun i hi => (h3 i hi).congr (fun q _ _ => e q (by omega)), fun b' hb' => ?_, fun o ho => ?_, ?_, ?_⟩
  · rw [e52] at hb'
    by_cases c : b' = b
    · rw [c]; exact hb
    · exact (h4 b' hb').congr (fun q _ _ => e q (by omega))
  · rw [e53] at ho
    exact (h5 o ho).congr (fun q _ _ => e q (by omega))
  · unfold hereN at h6 ⊢
    rw [e52]
    refine Nat.le_trans (cn_imp (Q := hereP a) (fun i hi hp => ?_)) h6
    unfold hereP at hp ⊢
    simp only [decide_eq_true_eq] at hp ⊢
    by_cases c : i = b
    · subst c; exact hs hp
    · rw [e _ (by omega)] at hp; exact hp
  · unfold openN at h7 ⊢
    rw [e53, cn_congr (Q := openP a) (fun i hi => by unfold openP; rw [e _ (by omega)])]
    exact h7

