/-! What holds of the class's state all along: the accounts of both metals, the lots, the bells, the sent ones. -/
def lotS (a : Nat → Int) (m : Nat) : Int := sm (fun i => a (9 + 3 * i + m)) (a 8).toNat
def belS (a : Nat → Int) (m : Nat) : Int := sm (bS a m (hereP a)) (a 52).toNat
def sntS (a : Nat → Int) (m : Nat) : Int := sm (bS a m (stP a 2)) (a 52).toNat
def JM (a : Nat → Int) (m : Nat) : Prop := a (2 + m) = a m + a (6 + m) + lotS a m + belS a m + sntS a m + a (4 + m) ∧ 0 ≤ a (4 + m)
def JL (a : Nat → Int) : Prop := ∀ i, i < (a 8).toNat → 0 < a (9 + 3 * i) + a (10 + 3 * i)
def JB1 (a : Nat → Int) (b : Nat) : Prop := (1 ≤ a (57 + 8 * b) ∧ a (57 + 8 * b) ≤ 20000) ∧ a (59 + 8 * b) < a (58 + 8 * b) ∧ (a (60 + 8 * b) ≠ 3 → a (54 + 8 * b) + a (55 + 8 * b) + a (59 + 8 * b) = a (58 + 8 * b)) ∧ (a (60 + 8 * b) = 2 → ∃ o : Nat, a (61 + 8 * b) = o ∧ o < (a 53).toNat ∧ a (857 + 4 * o) = 1 ∧ a (854 + 4 * o) = a (56 + 8 * b) ∧ pOK a o (a (57 + 8 * b)))
def JB (a : Nat → Int) : Prop := ∀ b, b < (a 52).toNat → JB1 a b
def JS (a : Nat → Int) : Prop := cn (orP a 1) (a 53).toNat = cn (stP a 2) (a 52).toNat
def JJ (a : Nat → Int) : Prop := (∀ m, m ≤ 1 → JM a m) ∧ JL a ∧ JB a ∧ JS a
theorem sm_s (f : Nat → Int) (n : Nat) : sm f (n + 1) = sm f n + f n := rfl
theorem sm_up {f g : Nat → Int} {p : Nat} : ∀ n : Nat, p < n → (∀ i, i < n → i ≠ p → g i = f i) → sm g n = sm f n - f p + g p := by
  intro n
  induction n with
  | zero => intro h; omega
  | succ n ih =>
    intro h e
    rw [sm_s, sm_s]
    by_cases c : p = n
    · subst c
      rw [sm_cg p (fun k hk => e k (by omega) (by omega))]; omega
    · rw [ih (by omega) (fun i hi hp => e i (by omega) hp), e n (by omega) (by omega)]; omega
theorem sm_rm {f g : Nat → Int} {j : Nat} : ∀ n : Nat, j ≤ n → (∀ i, i < j → g i = f i) → (∀ i, j ≤ i → i < n → g i = f (i + 1)) → sm g n = sm f (n + 1) - f j := by
  intro n
  induction n with
  | zero => intro h e1 e2; rw [sm_s, show j = 0 by omega]; show sm g 0 = sm f 0 + f 0 - f 0; show (0 : Int) = 0 + f 0 - f 0; omega
  | succ n ih =>
    intro h e1 e2
    by_cases c : j = n + 1
    · subst c
      rw [sm_cg (n + 1) (fun k hk => e1 k hk), sm_s f (n + 1)]; omega
    · rw [sm_s, ih (by omega) e1 (fun i h1 h2 => e2 i h1 (by omega)), e2 n (by omega) (by omega), sm_s f (n + 1)]; omega
theorem sm_nn {f : Nat → Int} : ∀ n : Nat, (∀ i, i < n → 0 ≤ f i) → 0 ≤ sm f n := by
  intro n
  induction n with
  | zero => intro _; exact Int.le_refl _
  | succ n ih => intro h; have := ih (fun i hi => h i (by omega)); have := h n (by omega); rw [sm_s]; omega
theorem cn_up {P Q : Nat → Bool} {p : Nat} : ∀ n : Nat, p < n → (∀ i, i < n → i ≠ p → Q i = P i) → P p = false → Q p = true → cn Q n = cn P n + 1 := by
  intro n
  induction n with
  | zero => intro h; omega
  | succ n ih =>
    intro h e hp hq
    by_cases c : p = n
    · subst c
      rw [cn_s hq, cn_f (by rw [hp]; decide), cn_congr (fun i hi => e i (by omega) (by omega))]
    · have h2 := ih (by omega) (fun i hi hp => e i (by omega) hp) hp hq
      have h3 := e n (by omega) (by omega)
      by_cases d : P n = true
      · rw [cn_s d, cn_s (by rw [h3]; exact d), h2]
      · rw [cn_f d, cn_f (by rw [h3]; exact d), h2]
/-! What the sums are, where nothing of theirs has changed. -/
theorem lotS_cg {a a' : Nat → Int} (e : ∀ q, 8 ≤ q → q < 45 → a' q = a q) (h8 : a 8 ≤ 12) {m : Nat} (hm : m ≤ 1) : lotS a' m = lotS a m := by
  unfold lotS
  rw [e 8 (by omega) (by omega)]
  exact sm_cg _ (fun i hi => e _ (by omega) (by omega))
theorem JL.cg {a a' : Nat → Int} (h : JL a) (e : ∀ q, 8 ≤ q → q < 45 → a' q = a q) (h8 : a 8 ≤ 12) : JL a' := by
  intro i hi
  rw [e 8 (by omega) (by omega)] at hi
  rw [e _ (by omega) (by omega), e _ (by omega) (by omega)]
  exact h i hi
theorem belS_cg {a a' : Nat → Int} (e : ∀ q, q = 52 ∨ (54 ≤ q ∧ q < 854) → a' q = a q) (h52 : a 52 ≤ 100) {m : Nat} (hm : m ≤ 1) : belS a' m = belS a m := by
  unfold belS
  rw [e 52 (by omega)]
  exact sm_cg _ (fun i hi => by unfold bS hereP; rw [e _ (by omega), e _ (by omega)])
theorem sntS_cg {a a' : Nat → Int} (e : ∀ q, q = 52 ∨ (54 ≤ q ∧ q < 854) → a' q = a q) (h52 : a 52 ≤ 100) {m : Nat} (hm : m ≤ 1) : sntS a' m = sntS a m := by
  unfold sntS
  rw [e 52 (by omega)]
  exact sm_cg _ (fun i hi => by unfold bS stP; rw [e _ (by omega), e _ (by omega)])
theorem JB1.cg {a a' : Nat → Int} {b : Nat} (h : JB1 a b) (e1 : ∀ q, 54 + 8 * b ≤ q → q < 62 + 8 * b → a' q = a q) (e2 : ∀ o : Nat, o < (a 53).toNat → a (857 + 4 * o) = 1 → o < (a' 53).toNat ∧ ∀ q, 854 + 4 * o ≤ q → q < 858 + 4 * o → a' q = a q) : JB1 a' b := by
  obtain ⟨h1, h2, h3, h4⟩ := h
  unfold JB1
  rw [e1 (54 + 8 * b) (by omega) (by omega), e1 (55 + 8 * b) (by omega) (by omega), e1 (56 + 8 * b) (by omega) (by omega), e1 (57 + 8 * b) (by omega) (by omega), e1 (58 + 8 * b) (by omega) (by omega), e1 (59 + 8 * b) (by omega) (by omega), e1 (60 + 8 * b) (by omega) (by omega), e1 (61 + 8 * b) (by omega) (by omega)]
  refine ⟨h1, h2, h3, fun hs => ?_⟩
  obtain ⟨o, g1, g2, g3, g4, g5⟩ := h4 hs
  obtain ⟨f1, f2⟩ := e2 o g2 g3
  refine ⟨o, g1, f1, by rw [f2 _ (by omega) (by omega)]; exact g3, by rw [f2 _ (by omega) (by omega)]; exact g4, ?_⟩
  unfold pOK at g5 ⊢
  rw [f2 (856 + 4 * o) (by omega) (by omega), f2 (855 + 4 * o) (by omega) (by omega)]
  exact g5
theorem JB.cg {a a' : Nat → Int} (h : JB a) (e : ∀ q, 52 ≤ q → a' q = a q) : JB a' := by
  intro b hb
  rw [e 52 (by omega)] at hb
  exact (h b hb).cg (fun q _ _ => e q (by omega)) (fun o ho _ => ⟨by rw [e 53 (by omega)]; exact ho, fun q _ _ => e q (by omega)⟩)
theorem JS.cg {a a' : Nat → Int} (h : JS a) (e : ∀ q, 52 ≤ q → a' q = a q) : JS a' := by
  unfold JS at h ⊢
  rw [e 52 (by omega), e 53 (by omega), cn_congr (P := orP a' 1) (Q := orP a 1) (fun i _ => by unfold orP; rw [e _ (by omega)]), cn_congr (P := stP a' 2) (Q := stP a 2) (fun i _ => by unfold stP; rw [e _ (by omega)])]
  exact h
theorem JJ.hi {a a' : Nat → Int} (h : JJ a) (e : ∀ q, 52 ≤ q → a' q = a q) (h52 : a 52 ≤ 100) (hM : ∀ m, m ≤ 1 → a' (2 + m) - a' m - a' (6 + m) - a' (4 + m) - lotS a' m = a (2 + m) - a m - a (6 + m) - a (4 + m) - lotS a m ∧ 0 ≤ a' (4 + m)) (hl : JL a') : JJ a' := by
  obtain ⟨h1, h2, h3, h4⟩ := h
  refine ⟨fun m hm => ?_, hl, h3.cg e, h4.cg e⟩
  have := h1 m hm
  unfold JM at this ⊢
  rw [belS_cg (fun q q1 => e q (by omega)) h52 hm, sntS_cg (fun q q1 => e q (by omega)) h52 hm]
  have := hM m hm
  omega
theorem J_buy {a : Nat → Int} (h : JJ a) (h8 : a 8 ≤ 12) (h52 : a 52 ≤ 100) {m : Nat} (hm : m ≤ 1) (Y : Int) : JJ (buyA a m Y) := by
  have hm' : m = 0 ∨ m = 1 := by omega
  have e : ∀ q, 8 ≤ q → buyA a m Y q = a q := fun q hq => by unfold buyA; rw [uI_n (by omega), uI_n (by omega)]
  refine h.hi (fun q hq => e q (by omega)) h52 (fun m' hm2 => ?_) (h.2.1.cg (fun q q1 _ => e q q1) h8)
  rw [lotS_cg (fun q q1 _ => e q q1) h8 hm2]
  have h3 := (h.1 m' hm2).2
  have h4 : m' = 0 ∨ m' = 1 := by omega
  rcases hm' with rfl | rfl <;> rcases h4 with rfl | rfl <;> (simp [buyA, uI] at h3 ⊢; omega)
theorem J_charge {a : Nat → Int} (h : JJ a) (h8 : a 8 ≤ 12) (h52 : a 52 ≤ 100) {m : Nat} (hm : m ≤ 1) (Y : Int) : JJ (chaA a m Y) := by
  have hm' : m = 0 ∨ m = 1 := by omega
  have e : ∀ q, 8 ≤ q → chaA a m Y q = a q := fun q hq => by unfold chaA; rw [uI_n (by omega), uI_n (by omega)]
  refine h.hi (fun q hq => e q (by omega)) h52 (fun m' hm2 => ?_) (h.2.1.cg (fun q q1 _ => e q q1) h8)
  rw [lotS_cg (fun q q1 _ => e q q1) h8 hm2]
  have h3 := (h.1 m' hm2).2
  have h4 : m' = 0 ∨ m' = 1 := by omega
  rcases hm' with rfl | rfl <;> rcases h4 with rfl | rfl <;> (simp [chaA, uI] at h3 ⊢; omega)
theorem J_set {a : Nat → Int} (h : JJ a) (h8 : a 8 ≤ 12) (h52 : a 52 ≤ 100) {j : Nat} (hj : j < 7) (Y : Int) : JJ (uI a (45 + j) Y) := by
  have e : ∀ q, (q < 45 ∨ 52 ≤ q) → uI a (45 + j) Y q = a q := fun q hq => uI_n (by omega)
  refine h.hi (fun q hq => e q (by omega)) h52 (fun m' hm2 => ?_) (h.2.1.cg (fun q q1 q2 => e q (by omega)) h8)
  rw [lotS_cg (fun q q1 q2 => e q (by omega)) h8 hm2, e _ (by omega), e _ (by omega), e _ (by omega), e _ (by omega)]
  exact ⟨rfl, (h.1 m' hm2).2⟩
/-! A lot comes. -/
theorem addA_em {a : Nat → Int} {kd c t : Int} {m : Nat} (hm : a 8 = m) (h12 : m < 12) (h : c + t ≠ 0) (q : Nat) : addA a kd c t q = if q = 8 then (m : Int) + 1 else if q = 9 + 3 * m then c else if q = 10 + 3 * m then t else if q = 11 + 3 * m then kd else a q := by
  unfold addA com cAt
  rw [if_neg h, hm, if_neg (by omega), if_neg (by omega), Int.toNat_natCast]
  by_cases e8 : q = 8
  · subst e8; rw [if_pos rfl, uI_n (by omega), uI_n (by omega), uI_n (by omega), uI_n (by omega), uI_n (by omega), uI_s]
  rw [if_neg e8]
  by_cases e0 : q = 9 + 3 * m
  · subst e0; rw [if_pos rfl, uI_n (by omega), uI_s, uI_n (by omega), uI_n (by omega), uI_s, Int.zero_add]
  rw [if_neg e0]
  by_cases e1 : q = 10 + 3 * m
  · subst e1
    rw [if_pos rfl, show 10 + 3 * m = 9 + 3 * m + 1 by omega, uI_s, uI_n (by omega), uI_s, Int.zero_add]
  rw [if_neg e1]
  by_cases e2 : q = 11 + 3 * m
  · subst e2; rw [if_pos rfl, uI_n (by omega), uI_n (by omega), uI_s]
  rw [if_neg e2, uI_n (by omega), uI_n (by omega), uI_n (by omega), uI_n (by omega), uI_n (by omega), uI_n (by omega)]
theorem addA_e12 {a : Nat → Int} {kd c t : Int} (hm : a 8 = 12) (h : c + t ≠ 0) (q : Nat) : addA a kd c t q = if q = 42 then a 42 + c else if q = 43 then a 43 + t else a q := by
  unfold addA com cAt
  rw [if_neg h, if_pos hm, if_pos hm]
  by_cases e0 : q = 42
  · subst e0; rw [if_pos rfl, uI_n (by omega), uI_s]
  rw [if_neg e0]
  by_cases e1 : q = 43
  · subst e1; rw [if_pos rfl]; exact uI_s _ _ _
  rw [if_neg e1, uI_n (by omega), uI_n (by omega)]
theorem lotS_add {a : Nat → Int} {kd c t : Int} (h8 : 0 ≤ a 8 ∧ a 8 ≤ 12) (hc : 0 ≤ c) (ht : 0 ≤ t) : lotS (addA a kd c t) 0 = lotS a 0 + c ∧ lotS (addA a kd c t) 1 = lotS a 1 + t := by
  by_cases h : c + t = 0
  · have e : addA a kd c t = a := by unfold addA; rw [if_pos h]
    rw [e]; omega
  · by_cases h12 : a 8 = 12
    · have e8 : addA a kd c t 8 = 12 := by rw [addA_e12 h12 h, if_neg (by omega), if_neg (by omega)]; exact h12
      unfold lotS
      rw [e8, h12]
      refine ⟨?_, ?_⟩
      · rw [sm_up (f := fun i => a (9 + 3 * i + 0)) (g := fun i => addA a kd c t (9 + 3 * i + 0)) (p := 11) _ (by decide) (fun i hi hp => by
          show addA a kd c t _ = a _
          have hi : i < 12 := hi
          rw [addA_e12 h12 h, if_neg (by omega), if_neg (by omega)])]
        show _ - a 42 + addA a kd c t 42 = _
        rw [addA_e12 h12 h, if_pos rfl]; omega
      · rw [sm_up (f := fun i => a (9 + 3 * i + 1)) (g := fun i => addA a kd c t (9 + 3 * i + 1)) (p := 11) _ (by decide) (fun i hi hp => by
          show addA a kd c t _ = a _
          have hi : i < 12 := hi
          rw [addA_e12 h12 h, if_neg (by omega), if_neg (by omega)])]
        show _ - a 43 + addA a kd c t 43 = _
        rw [addA_e12 h12 h, if_neg (by omega), if_pos rfl]; omega
    · obtain ⟨m, hm⟩ : ∃ m : Nat, a 8 = m := ⟨(a 8).toNat, by omega⟩
      have hm12 : m < 12 := by omega
      have e8 : addA a kd c t 8 = ((m + 1 : Nat) : Int) := by rw [addA_em hm hm12 h, if_pos rfl]; rfl
      unfold lotS
      rw [e8, hm, Int.toNat_natCast, Int.toNat_natCast, sm_s, sm_s]
      refine ⟨?_, ?_⟩
      · rw [sm_cg (f := fun i => addA a kd c t (9 + 3 * i + 0)) (g := fun i => a (9 + 3 * i + 0)) m (fun i hi => by
          show addA a kd c t _ = a _
          rw [addA_em hm hm12 h, if_neg (by omega), if_neg (by omega), if_neg (by omega), if_neg (by omega)]), Nat.add_zero, addA_em hm hm12 h, if_neg (by omega), if_pos rfl]
      · rw [sm_cg (f := fun i => addA a kd c t (9 + 3 * i + 1)) (g := fun i => a (9 + 3 * i + 1)) m (fun i hi => by
          show addA a kd c t _ = a _
          rw [addA_em hm hm12 h, if_neg (by omega), if_neg (by omega), if_neg (by omega), if_neg (by omega)]), addA_em hm hm12 h, if_neg (by omega), if_neg (by omega), if_pos (by omega)]
theorem JL_add {a : Nat → Int} {kd c t : Int} (h8 : 0 ≤ a 8 ∧ a 8 ≤ 12) (hc : 0 ≤ c) (ht : 0 ≤ t) (hl : JL a) : JL (addA a kd c t) := by
  by_cases h : c + t = 0
  · have e : addA a kd c t = a := by unfold addA; rw [if_pos h]
    rw [e]; exact hl
  · intro i hi
    by_cases h12 : a 8 = 12
    · have e8 : addA a kd c t 8 = 12 := by rw [addA_e12 h12 h, if_neg (by omega), if_neg (by omega)]; exact h12
      rw [e8] at hi
      have h2 := hl i (by rw [h12]; exact hi)
      have hi : i < 12 := hi
      rw [addA_e12 h12 h, addA_e12 h12 h]
      by_cases c11 : i = 11
      · subst c11
        rw [if_pos (by omega), if_neg (by omega), if_pos (by omega)]
        have h2 : 0 < a 42 + a 43 := h2
        omega
      · rw [if_neg (by omega), if_neg (by omega), if_neg (by omega), if_neg (by omega)]; exact h2
    · obtain ⟨m, hm⟩ : ∃ m : Nat, a 8 = m := ⟨(a 8).toNat, by omega⟩
      have hm12 : m < 12 := by omega
      have e8 : addA a kd c t 8 = ((m + 1 : Nat) : Int) := by rw [addA_em hm hm12 h, if_pos rfl]; rfl
      rw [e8, Int.toNat_natCast] at hi
      rw [addA_em hm hm12 h, addA_em hm hm12 h]
      by_cases cm : i = m
      · subst cm
        rw [if_neg (by omega), if_pos rfl, if_neg (by omega), if_neg (by omega), if_pos rfl]; omega
      · rw [if_neg (by omega), if_neg (by omega), if_neg (by omega), if_neg (by omega), if_neg (by omega), if_neg (by omega), if_neg (by omega), if_neg (by omega)]
        exact hl i (by omega)
/-! Orders. -/
theorem JJ.ord {a a' : Nat → Int} (h : JJ a) (h8 : a 8 ≤ 12) (h52 : a 52 ≤ 100) (e : ∀ q, q ≠ 53 → q < 854 → a' q = a q) (e2 : ∀ o : Nat, o < (a 53).toNat → a (857 + 4 * o) = 1 → o < (a' 53).toNat ∧ ∀ q, 854 + 4 * o ≤ q → q < 858 + 4 * o → a' q = a q) (hs : cn (orP a' 1) (a' 53).toNat = cn (orP a 1) (a 53).toNat) : JJ a' := by
  obtain ⟨h1, h2, h3, h4⟩ := h
  refine ⟨fun m hm => ?_, h2.cg (fun q q1 q2 => e q (by omega) (by omega)) h8, fun b hb => ?_, ?_⟩
  · have := h1 m hm
    unfold JM at this ⊢
    rw [lotS_cg (fun q q1 q2 => e q (by omega) (by omega)) h8 hm, belS_cg (fun q q1 => e q (by omega) (by omega)) h52 hm, sntS_cg (fun q q1 => e q (by omega) (by omega)) h52 hm, e (2 + m) (by omega) (by omega), e m (by omega) (by omega), e (6 + m) (by omega) (by omega), e (4 + m) (by omega) (by omega)]
    exact this
  · rw [e 52 (by omega) (by omega)] at hb
    exact (h3 b hb).cg (fun q q1 q2 => e q (by omega) (by omega)) e2
  · unfold JS at h4 ⊢
    rw [hs, h4, e 52 (by omega) (by omega)]
    exact (cn_congr (fun i hi => by unfold stP; rw [e _ (by omega) (by omega)])).symm
theorem J_order {a : Nat → Int} (h : JJ a) (h8 : a 8 ≤ 12) (h52 : a 52 ≤ 100) {o : Nat} (ho : a 53 = o) {p q s : Int} : JJ (ordA a o p q s) := by
  have e' : ∀ q', q' ≠ 53 → (q' < 854 + 4 * o ∨ 858 + 4 * o ≤ q') → ordA a o p q s q' = a q' := fun q' g1 g2 => by
    show uI _ _ _ _ = _
    rw [uI_n (by omega), uI_n (by omega), uI_n (by omega), uI_n (by omega), uI_n (by omega)]
  have e53 : ordA a o p q s 53 = ((o + 1 : Nat) : Int) := by show uI _ _ _ _ = _; rw [uI_s, ho]; rfl
  have e57 : ordA a o p q s (857 + 4 * o) = 0 := by show uI _ _ _ _ = _; rw [uI_n (by omega), uI_s]
  refine h.ord h8 h52 (fun q' g1 g2 => e' q' g1 (by omega)) (fun o' ho' _ => ⟨by rw [e53, Int.toNat_natCast]; omega, fun q' g1 g2 => e' q' (by omega) (by omega)⟩) ?_
  rw [e53, ho, Int.toNat_natCast, Int.toNat_natCast, cn_f (by unfold orP; rw [e57]; decide)]
  exact cn_congr (fun i hi => by unfold orP; rw [e' _ (by omega) (by omega)])
theorem J_cancel {a : Nat → Int} (h : JJ a) (h8 : a 8 ≤ 12) (h52 : a 52 ≤ 100) {j : Nat} (c : a (857 + 4 * j) = 0) : JJ (uI a (857 + 4 * j) 2) := by
  have e : ∀ q, q ≠ 857 + 4 * j → uI a (857 + 4 * j) 2 q = a q := fun q hq => uI_n hq
  refine h.ord h8 h52 (fun q g1 g2 => e q (by omega)) (fun o ho h1 => ⟨by rw [e 53 (by omega)]; exact ho, fun q g1 g2 => e q (fun hq => ?_)⟩) ?_
  · have : j = o := by omega
    subst this
    omega
  · rw [e 53 (by omega)]
    refine cn_congr (fun i hi => ?_)
    unfold orP
    by_cases d : i = j
    · subst d; rw [uI_s, c]; decide
    · rw [e _ (by omega)]
/-! Bells. -/
theorem J_send {a : Nat → Int} {k : Int} (h : JJ a) (hB : Bd k a) {b o : Nat} (hb : b < (a 52).toNat) (ho : o < (a 53).toNat) (g0 : a (857 + 4 * o) = 0) (g : fit a b o) : JJ (senA a b o) := by
  have hM := hB.1
  unfold BM at hM
  obtain ⟨h1, h2, h3, h4⟩ := h
  have e : ∀ q, q ≠ 60 + 8 * b → q ≠ 61 + 8 * b → q ≠ 857 + 4 * o → senA a b o q = a q := fun q q1 q2 q3 => by unfold senA; rw [uI_n q3, uI_n q2, uI_n q1]
  have e60 : senA a b o (60 + 8 * b) = 2 := by unfold senA; rw [uI_n (by omega), uI_n (by omega), uI_s]
  have e61 : senA a b o (61 + 8 * b) = o := by unfold senA; rw [uI_n (by omega), uI_s]
  have e57 : senA a b o (857 + 4 * o) = 1 := by unfold senA; rw [uI_s]
  refine ⟨fun m hm => ?_, h2.cg (fun q q1 q2 => e q (by omega) (by omega) (by omega)) (by omega), fun b' hb' => ?_, ?_⟩
  · have := h1 m hm
    unfold JM at this ⊢
    have hbel : belS (senA a b o) m = belS a m - a (54 + 8 * b + m) := by
      unfold belS
      rw [e 52 (by omega) (by omega) (by omega), sm_up (f := bS a m (hereP a)) (p := b) _ hb (fun i hi hp => by unfold bS hereP; rw [e _ (by omega) (by omega) (by omega), e _ (by omega) (by omega) (by omega)])]
      have p1 : bS a m (hereP a) b = a (54 + 8 * b + m) := by unfold bS hereP; rw [g.1]; rfl
      have p2 : bS (senA a b o) m (hereP (senA a b o)) b = 0 := by unfold bS hereP; rw [e60]; rfl
      rw [p1, p2]; omega
    have hsn : sntS (senA a b o) m = sntS a m + a (54 + 8 * b + m) := by
      unfold sntS
      rw [e 52 (by omega) (by omega) (by omega), sm_up (f := bS a m (stP a 2)) (p := b) _ hb (fun i hi hp => by unfold bS stP; rw [e _ (by omega) (by omega) (by omega), e _ (by omega) (by omega) (by omega)])]
      have p1 : bS a m (stP a 2) b = 0 := by unfold bS stP; rw [g.1]; rfl
      have p2 : bS (senA a b o) m (stP (senA a b o) 2) b = a (54 + 8 * b + m) := by unfold bS stP; rw [e60, e _ (by omega) (by omega) (by omega)]; rfl
      rw [p1, p2]; omega
    rw [lotS_cg (fun q q1 q2 => e q (by omega) (by omega) (by omega)) (by omega) hm, hbel, hsn, e (2 + m) (by omega) (by omega) (by omega), e m (by omega) (by omega) (by omega), e (6 + m) (by omega) (by omega) (by omega), e (4 + m) (by omega) (by omega) (by omega)]
    omega
  · rw [e 52 (by omega) (by omega) (by omega)] at hb'
    by_cases d : b' = b
    · subst d
      obtain ⟨j1, j2, j3, j4⟩ := h3 b' hb
      unfold JB1
      rw [e60, e61, e (54 + 8 * b') (by omega) (by omega) (by omega), e (55 + 8 * b') (by omega) (by omega) (by omega), e (56 + 8 * b') (by omega) (by omega) (by omega), e (57 + 8 * b') (by omega) (by omega) (by omega), e (58 + 8 * b') (by omega) (by omega) (by omega), e (59 + 8 * b') (by omega) (by omega) (by omega)]
      have g1 := g.1
      refine ⟨j1, j2, fun _ => j3 (by omega), fun _ => ⟨o, rfl, by rw [e 53 (by omega) (by omega) (by omega)]; exact ho, e57, ?_, ?_⟩⟩
      · rw [e _ (by omega) (by omega) (by omega)]; exact g.2.1.symm
      · have g2 := g.2.2
        unfold pOK
        rw [e (856 + 4 * o) (by omega) (by omega) (by omega), e (855 + 4 * o) (by omega) (by omega) (by omega)]
        exact g2
    · refine (h3 b' hb').cg (fun q q1 q2 => e q (by omega) (by omega) (by omega)) (fun o' ho' h1' => ⟨by rw [e 53 (by omega) (by omega) (by omega)]; exact ho', fun q q1 q2 => e q (by omega) (by omega) (fun hq => ?_)⟩)
      have : o = o' := by omega
      subst this
      omega
  · unfold JS at h4 ⊢
    rw [e 52 (by omega) (by omega) (by omega), e 53 (by omega) (by omega) (by omega), cn_up (P := orP a 1) (Q := orP (senA a b o) 1) (p := o) _ ho (fun i hi hp => by unfold orP; rw [e _ (by omega) (by omega) (by omega)]) (by unfold orP; rw [g0]; rfl) (by unfold orP; rw [e57]; rfl), cn_up (P := stP a 2) (Q := stP (senA a b o) 2) (p := b) _ hb (fun i hi hp => by unfold stP; rw [e _ (by omega) (by omega) (by omega)]) (by unfold stP; rw [g.1]; rfl) (by unfold stP; rw [e60]; rfl), h4]
/-- a bell b that was here comes to lose d0, d1 (all of it or by tuning), which come to the scrap; a1: behind the bell's change, ahead of the lot -/
theorem J_lotBell {a a1 : Nat → Int} {kd d0 d1 : Int} {k : Int} (h : JJ a) (hB : Bd k a) {b : Nat} (hb : b < (a 52).toNat) (hs : a (60 + 8 * b) < 2) (e : ∀ q, (q < 54 + 8 * b ∨ 62 + 8 * b ≤ q) → a1 q = a q) (hd0 : 0 ≤ d0) (hd1 : 0 ≤ d1) (hj : JB1 a1 b) (hs2 : a1 (60 + 8 * b) ≠ 2)
    (hm0 : (if a1 (60 + 8 * b) < 2 then a1 (54 + 8 * b) else 0) = a (54 + 8 * b) - d0) (hm1 : (if a1 (60 + 8 * b) < 2 then a1 (55 + 8 * b) else 0) = a (55 + 8 * b) - d1) : JJ (addA a1 kd d0 d1) := by
  have hM := hB.1
  unfold BM at hM
  have hb0 := (hB.2.2.2.1 b hb).2.2.2.2.2.1
  have h8 : 0 ≤ a1 8 ∧ a1 8 ≤ 12 := by rw [e 8 (by omega)]; omega
  have ea : ∀ q, (q < 8 ∨ 45 ≤ q) → addA a1 kd d0 d1 q = a1 q := fun q hq => addA_n h8 hq
  have eq : ∀ q, (q < 8 ∨ 45 ≤ q) → (q < 54 + 8 * b ∨ 62 + 8 * b ≤ q) → addA a1 kd d0 d1 q = a q := fun q g1 g2 => by rw [ea q g1, e q g2]
  obtain ⟨h1, h2, h3, h4⟩ := h
  have hl1 : JL a1 := h2.cg (fun q q1 q2 => e q (by omega)) (by omega)
  refine ⟨fun m hm => ?_, JL_add h8 hd0 hd1 hl1, fun b' hb' => ?_, ?_⟩
  · have := h1 m hm
    unfold JM at this ⊢
    have hls := lotS_add (kd := kd) h8 hd0 hd1
    rw [lotS_cg (a := a) (m := 0) (fun q q1 q2 => e q (by omega)) (by omega) (by omega), lotS_cg (a := a) (m := 1) (fun q q1 q2 => e q (by omega)) (by omega) (by omega)] at hls
    have hsn : sntS (addA a1 kd d0 d1) m = sntS a m := by
      unfold sntS
      rw [eq 52 (by omega) (by omega)]
      refine sm_cg _ (fun i hi => ?_)
      unfold bS stP
      by_cases c : i = b
      · subst c
        rw [ea _ (by omega), if_neg (by simpa using hs2), if_neg (by simp; omega)]
      · rw [eq _ (by omega) (by omega), eq _ (by omega) (by omega)]
    have hbel : belS (addA a1 kd d0 d1) m = belS a m - (if m = 0 then d0 else d1) := by
      unfold belS
      rw [eq 52 (by omega) (by omega), sm_up (f := bS a m (hereP a)) (p := b) _ hb (fun i hi hp => by unfold bS hereP; rw [eq _ (by omega) (by omega), eq _ (by omega) (by omega)])]
      have p1 : bS a m (hereP a) b = a (54 + 8 * b + m) := by unfold bS hereP; rw [if_pos (by simpa using hs)]
      have p2 : bS (addA a1 kd d0 d1) m (hereP (addA a1 kd d0 d1)) b = a (54 + 8 * b + m) - (if m = 0 then d0 else d1) := by
        unfold bS hereP
        rw [ea _ (by omega), ea _ (by omega)]
        have hm' : m = 0 ∨ m = 1 := by omega
        rcases hm' with rfl | rfl
        · rw [if_pos rfl, Nat.add_zero, ← hm0]; simp only [decide_eq_true_eq]
        · rw [if_neg (show ¬ (1 : Nat) = 0 by omega), show 54 + 8 * b + 1 = 55 + 8 * b by omega, ← hm1]; simp only [decide_eq_true_eq]
      rw [p1, p2]; omega
    have hm' : m = 0 ∨ m = 1 := by omega
    rw [hsn, hbel, eq (2 + m) (by omega) (by omega), eq m (by omega) (by omega), eq (6 + m) (by omega) (by omega), eq (4 + m) (by omega) (by omega)]
    rcases hm' with rfl | rfl
    · rw [hls.1, if_pos rfl]; omega
    · rw [hls.2, if_neg (by omega)]; omega
  · rw [eq 52 (by omega) (by omega)] at hb'
    by_cases d : b' = b
    · subst d
      refine hj.cg (fun q q1 q2 => ea q (by omega)) (fun o ho _ => ⟨by rw [ea 53 (by omega)]; exact ho, fun q q1 q2 => ea q (by omega)⟩)
    · exact (h3 b' hb').cg (fun q q1 q2 => eq q (by omega) (by omega)) (fun o ho _ => ⟨by rw [eq 53 (by omega) (by omega)]; exact ho, fun q q1 q2 => eq q (by omega) (by omega)⟩)
  · unfold JS at h4 ⊢
    rw [eq 52 (by omega) (by omega), eq 53 (by omega) (by omega), cn_congr (P := orP (addA a1 kd d0 d1) 1) (Q := orP a 1) (fun i hi => by unfold orP; rw [eq _ (by omega) (by omega)]), h4]
    refine cn_congr (fun i hi => ?_)
    unfold stP
    by_cases c : i = b
    · subst c
      rw [ea _ (by omega), decide_eq_false (by omega), decide_eq_false hs2]
    · rw [eq _ (by omega) (by omega)]
theorem J_smash {a : Nat → Int} {k : Int} (h : JJ a) (hB : Bd k a) {b : Nat} (hb : b < (a 52).toNat) (hs : a (60 + 8 * b) < 2) : JJ (smA a b) := by
  have hM := hB.1
  unfold BM at hM
  obtain ⟨b1, b2, b3, b4, b5, b6, b7, b8, b9⟩ := hB.2.2.2.1 b hb
  rw [smA_e (by omega)]
  have f0 : uI (uI (uI a (54 + 8 * b) 0) (55 + 8 * b) 0) (60 + 8 * b) 3 (60 + 8 * b) = 3 := uI_s _ _ _
  refine J_lotBell h hB hb hs (fun q hq => by rw [uI_n (by omega), uI_n (by omega), uI_n (by omega)]) (by omega) (by omega) ?_ (by rw [f0]; omega) (by rw [f0, if_neg (by omega)]; omega) (by rw [f0, if_neg (by omega)]; omega)
  obtain ⟨j1, j2, j3, j4⟩ := h.2.2.1 b hb
  unfold JB1
  rw [f0, uI_n (show 57 + 8 * b ≠ 60 + 8 * b by omega), uI_n (show 57 + 8 * b ≠ 55 + 8 * b by omega), uI_n (show 57 + 8 * b ≠ 54 + 8 * b by omega), uI_n (show 58 + 8 * b ≠ 60 + 8 * b by omega), uI_n (show 58 + 8 * b ≠ 55 + 8 * b by omega), uI_n (show 58 + 8 * b ≠ 54 + 8 * b by omega), uI_n (show 59 + 8 * b ≠ 60 + 8 * b by omega), uI_n (show 59 + 8 * b ≠ 55 + 8 * b by omega), uI_n (show 59 + 8 * b ≠ 54 + 8 * b by omega)]
  exact ⟨j1, j2, fun q => absurd rfl q, fun q => by omega⟩
theorem low_p {pi tu n w : Int} (h1 : 1 ≤ pi) (ht : 0 ≤ tu) (hn : 0 ≤ n) (hw : 0 < w) : 1 ≤ low pi tu n w ∧ low pi tu n w ≤ pi := by
  have h2 : 0 ≤ tu * 1000 * n / w := Int.ediv_nonneg (Int.mul_nonneg (by omega) hn) (by omega)
  unfold low
  split <;> omega
theorem J_tune {a : Nat → Int} {k : Int} (h : JJ a) (hB : Bd k a) {b : Nat} (hb : b < (a 52).toNat) (hs : a (60 + 8 * b) = 0) {y : Int} (hy : 1 ≤ y) (hw : y < a (54 + 8 * b) + a (55 + 8 * b)) : JJ (tunA a b y) := by
  have hM := hB.1
  unfold BM at hM
  have hS := hB.2.1
  unfold BS at hS
  obtain ⟨b1, b2, b3, b4, b5, b6, b7, b8, b9⟩ := hB.2.2.2.1 b hb
  obtain ⟨j1, j2, j3, j4⟩ := h.2.2.1 b hb
  have j3 := j3 (by omega)
  have hl := low_p (pi := a (57 + 8 * b)) (tu := a 50) (n := y) (w := a (54 + 8 * b) + a (55 + 8 * b)) (by omega) (by omega) (by omega) (by omega)
  unfold tunA dsc
  obtain ⟨st, hst⟩ : ∃ st : Int, st = if crk (a (59 + 8 * b)) y (a (56 + 8 * b)) (a (58 + 8 * b)) then 1 else 0 := ⟨_, rfl⟩
  rw [← hst]
  have hst2 : 0 ≤ st ∧ st ≤ 1 := by rw [hst]; split <;> omega
  obtain ⟨f, hf⟩ : ∃ f, f = tuA a b (tlow a b y) st (a (59 + 8 * b) + y) := ⟨_, rfl⟩
  rw [← hf]
  have f0 : f (54 + 8 * b) = a (54 + 8 * b) := by rw [hf, tuA_n (by omega) (by omega) (by omega)]
  have f1 : f (54 + 8 * b + 1) = a (55 + 8 * b) := by rw [hf, tuA_n (by omega) (by omega) (by omega), show 54 + 8 * b + 1 = 55 + 8 * b by omega]
  have c1 := cin_nn (n := y) (c := a (54 + 8 * b)) (t := a (55 + 8 * b)) (by omega) (by omega) (by omega)
  have c2 := cin_le (n := y) (c := a (54 + 8 * b)) (t := a (55 + 8 * b)) (by omega) (by omega) (by omega) (by omega)
  rw [f0, f1]
  obtain ⟨d, hd⟩ : ∃ d, d = cin y (a (54 + 8 * b)) (a (55 + 8 * b)) := ⟨_, rfl⟩
  rw [← hd] at c1 c2 ⊢
  have g : ∀ q, q ≠ 54 + 8 * b → q ≠ 55 + 8 * b → drw f (54 + 8 * b) y q = f q := fun q q1 q2 => drw_n q1 (by omega)
  have g0 : drw f (54 + 8 * b) y (54 + 8 * b) = a (54 + 8 * b) - d := by rw [drw_p, f0, f1, ← hd]
  have g1 : drw f (54 + 8 * b) y (55 + 8 * b) = a (55 + 8 * b) - (y - d) := by
    have := drw_p1 (a := f) (p := 54 + 8 * b) (n := y)
    rw [f0, f1, ← hd] at this
    rw [show 55 + 8 * b = 54 + 8 * b + 1 by omega]
    rw [this, show 54 + 8 * b + 1 = 55 + 8 * b by omega]
  have g60 : drw f (54 + 8 * b) y (60 + 8 * b) = st := by rw [g _ (by omega) (by omega), hf, tuA_6]
  have g57 : drw f (54 + 8 * b) y (57 + 8 * b) = tlow a b y := by rw [g _ (by omega) (by omega), hf, tuA_3]
  have g59 : drw f (54 + 8 * b) y (59 + 8 * b) = a (59 + 8 * b) + y := by rw [g _ (by omega) (by omega), hf, tuA_5]
  have g58 : drw f (54 + 8 * b) y (58 + 8 * b) = a (58 + 8 * b) := by rw [g _ (by omega) (by omega), hf, tuA_n (by omega) (by omega) (by omega)]
  refine J_lotBell h hB hb (by omega) (fun q hq => by rw [g _ (by omega) (by omega), hf, tuA_n (by omega) (by omega) (by omega)]) c1 (by omega) ?_ (by rw [g60]; omega) (by rw [g60, if_pos (by omega), g0]) (by rw [g60, if_pos (by omega), g1])
  unfold JB1
  have ht : tlow a b y = low (a (57 + 8 * b)) (a 50) y (a (54 + 8 * b) + a (55 + 8 * b)) := rfl
  rw [g60, g57, g59, g58, g0, g1]
  exact ⟨by omega, by omega, fun _ => by omega, fun q => by omega⟩
