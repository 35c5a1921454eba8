/-! PURE from here on (no machine): the copying of a Works. -/
theorem letB_e {β : Type} (a : MM) (f : MM → β) : letB a f = f a := rfl
theorem letJ_e {β : Type} (a : Int32) (f : Int32 → β) : letJ a f = f a := rfl
theorem bnd3_s {α γ δ β : Type} (a : α) (b : γ) (c : δ) (F : α → γ → δ → Option β) : bnd3 (some (a, b, c)) F = F a b c := rfl
theorem bnd4_s {α γ δ ε β : Type} (a : α) (b : γ) (c : δ) (d : ε) (F : α → γ → δ → ε → Option β) : bnd4 (some (a, b, c, d)) F = F a b c d := rfl
/-- one group set -/
def sg (M : MM) (k : Nat) (w : Nat → Int32) : MM := fun G => if G = k then w else M G
theorem sg_s (M : MM) (k : Nat) (w : Nat → Int32) : sg M k w k = w := by simp [sg]
theorem sg_n {M : MM} {k G : Nat} {w : Nat → Int32} (h : G ≠ k) : sg M k w G = M G := by simp [sg, h]
theorem sg_id (M : MM) (k : Nat) : sg M k (M k) = M := by
  funext G
  by_cases h : G = k
  · subst h; rw [sg_s]
  · rw [sg_n h]
theorem up2_sg (M : MM) (k i : Nat) (w : Nat → Int32) (x : Int32) : up2 (sg M k w) k i x = sg M k (upd w i x) := by
  funext G
  by_cases h : G = k
  · subst h; rw [up2_gr, sg_s, sg_s]
  · rw [up2_gn h, sg_n h, sg_n h]
theorem upd_s (f : Nat → Int32) (i : Nat) (x : Int32) : upd f i x i = x := by simp [upd]
theorem upd_n {f : Nat → Int32} {i q : Nat} {x : Int32} (h : q ≠ i) : upd f i x q = f q := by simp [upd, h]
theorem vin_nI {i n : Nat} (h : i < n) (hn : n < 2 ^ 31) : vin (nI i) n := nI_in h hn
theorem e_mixCopy {M : MM} {k k2 i i2 : Nat} {w : Nat → Int32} (h : k2 ≠ k) : f_X6_copyFrom (sg M k w) k i k2 i2 = some ((), sg M k (upd (upd w i (M k2 i2)) (i + 1) (M k2 (i2 + 1)))) := by
  unfold f_X6_copyFrom
  simp only [letB_e, up2_sg, sg_n h]
def cpB (w u : Nat → Int32) (a n : Nat) : Nat → Int32 := fun q => if 54 + 8 * a ≤ q ∧ q < 54 + 8 * n then u q else w q
def cpO (w u : Nat → Int32) (a n : Nat) : Nat → Int32 := fun q => if 854 + 4 * a ≤ q ∧ q < 854 + 4 * n then u q else w q
theorem e_bellCopy {M : MM} {k k2 j : Nat} {w : Nat → Int32} (h : k2 ≠ k) : f_X0_copyFrom (sg M k w) k j k2 j = some ((), sg M k (cpB w (M k2) j (j + 1))) := by
  unfold f_X0_copyFrom
  rw [e_mixCopy h]
  simp only [bnd2_s, letB_e, up2_sg, sg_n h]
  refine congrArg some (Prod.ext rfl (congrArg (sg M k) ?_))
  funext q
  unfold cpB upd
  by_cases h1 : 54 + 8 * j ≤ q ∧ q < 54 + 8 * (j + 1)
  · rw [if_pos h1]
    have h2 : q = 54 + 8 * j ∨ q = 54 + 8 * j + 1 ∨ q = 56 + 8 * j ∨ q = 57 + 8 * j ∨ q = 58 + 8 * j ∨ q = 59 + 8 * j ∨ q = 60 + 8 * j ∨ q = 61 + 8 * j := by omega
    rcases h2 with h2 | h2 | h2 | h2 | h2 | h2 | h2 | h2 <;> subst h2
    · rw [if_neg (by omega), if_neg (by omega), if_neg (by omega), if_neg (by omega), if_neg (by omega), if_neg (by omega), if_neg (by omega), if_pos rfl]
    · rw [if_neg (by omega), if_neg (by omega), if_neg (by omega), if_neg (by omega), if_neg (by omega), if_neg (by omega), if_pos rfl]
    · rw [if_neg (by omega), if_neg (by omega), if_neg (by omega), if_neg (by omega), if_neg (by omega), if_pos rfl]
    · rw [if_neg (by omega), if_neg (by omega), if_neg (by omega), if_neg (by omega), if_pos rfl]
    · rw [if_neg (by omega), if_neg (by omega), if_neg (by omega), if_pos rfl]
    · rw [if_neg (by omega), if_neg (by omega), if_pos rfl]
    · rw [if_neg (by omega), if_pos rfl]
    · rw [if_pos rfl]
  · rw [if_neg h1, if_neg (by omega), if_neg (by omega), if_neg (by omega), if_neg (by omega), if_neg (by omega), if_neg (by omega), if_neg (by omega), if_neg (by omega)]
theorem e_orderCopy {M : MM} {k k2 j : Nat} {w : Nat → Int32} (h : k2 ≠ k) : f_X7_copyFrom (sg M k w) k j k2 j = some ((), sg M k (cpO w (M k2) j (j + 1))) := by
  unfold f_X7_copyFrom
  simp only [letB_e, up2_sg, sg_n h]
  refine congrArg some (Prod.ext rfl (congrArg (sg M k) ?_))
  funext q
  unfold cpO upd
  by_cases h1 : 854 + 4 * j ≤ q ∧ q < 854 + 4 * (j + 1)
  · rw [if_pos h1]
    have h2 : q = 854 + 4 * j ∨ q = 855 + 4 * j ∨ q = 856 + 4 * j ∨ q = 857 + 4 * j := by omega
    rcases h2 with h2 | h2 | h2 | h2 <;> subst h2 <;> simp <;> omega
  · rw [if_neg h1, if_neg (by omega), if_neg (by omega), if_neg (by omega), if_neg (by omega)]
theorem l_orders {M : MM} {k k2 n : Nat} (h : k2 ≠ k) (hn : n ≤ 100) : ∀ (j fu i : Nat) (w : Nat → Int32), i + j = n → j < fu → w 53 = nI n → lp_X9_copyFrom_122 fu (sg M k w) k k2 (nI i) = some ((), sg M k (cpO w (M k2) i n)) := by
  intro j
  induction j with
  | zero =>
    intro fu i w hi hf hw
    obtain ⟨f, rfl⟩ : ∃ f, fu = f + 1 := ⟨fu - 1, by omega⟩
    obtain rfl : i = n := by omega
    unfold lp_X9_copyFrom_122
    rw [sg_s, hw, if_pos (nI_le (Nat.le_refl _) (by omega))]
    refine congrArg some (Prod.ext rfl (congrArg (sg M k) ?_))
    funext q
    unfold cpO
    rw [if_neg (by omega)]
  | succ j ih =>
    intro fu i w hi hf hw
    obtain ⟨f, rfl⟩ : ∃ f, fu = f + 1 := ⟨fu - 1, by omega⟩
    unfold lp_X9_copyFrom_122
    rw [sg_s, hw, if_neg (nI_ge (by omega) (by omega)), if_pos (vin_nI (by omega) (by decide)), if_pos (vin_nI (by omega) (by decide)), nI_clamp (by omega), e_orderCopy h, bnd2_s, nI_1]
    rw [ih f (i + 1) _ (by omega) (by omega) (by unfold cpO; rw [if_neg (by omega)]; exact hw)]
    refine congrArg some (Prod.ext rfl (congrArg (sg M k) ?_))
    funext q
    unfold cpO
    by_cases h1 : 854 + 4 * (i + 1) ≤ q ∧ q < 854 + 4 * n
    · rw [if_pos h1, if_pos (by omega)]
    · rw [if_neg h1]
      by_cases h2 : 854 + 4 * i ≤ q ∧ q < 854 + 4 * (i + 1)
      · rw [if_pos h2, if_pos (by omega)]
      · rw [if_neg h2, if_neg (by omega)]
theorem l_bells {M : MM} {k k2 n m : Nat} (h : k2 ≠ k) (hn : n ≤ 100) (hm : m ≤ 100) (hu : M k2 53 = nI m) : ∀ (j fu i : Nat) (w : Nat → Int32), i + j = n → j < fu → w 52 = nI n → lp_X9_copyFrom_83 fu (sg M k w) k k2 (nI i) = some ((), sg M k (cpO (upd (cpB w (M k2) i n) 53 (nI m)) (M k2) 0 m)) := by
  intro j
  induction j with
  | zero =>
    intro fu i w hi hf hw
    obtain ⟨f, rfl⟩ : ∃ f, fu = f + 1 := ⟨fu - 1, by omega⟩
    obtain rfl : i = n := by omega
    unfold lp_X9_copyFrom_83
    rw [sg_s, hw, if_pos (nI_le (Nat.le_refl _) (by omega)), letB_e, sg_n h, hu, up2_sg]
    have h9 := l_orders (M := M) h hm m FU 0 (upd w 53 (nI m)) (by omega) (by unfold FU; omega) (upd_s _ _ _)
    rw [show (nI 0 : Int32) = 0 from rfl] at h9
    rw [h9]
    refine congrArg some (Prod.ext rfl (congrArg (sg M k) ?_))
    funext q
    unfold cpO
    by_cases h1 : 854 + 4 * 0 ≤ q ∧ q < 854 + 4 * m
    · rw [if_pos h1, if_pos h1]
    · rw [if_neg h1, if_neg h1]
      by_cases h2 : q = 53
      · subst h2; rw [upd_s, upd_s]
      · rw [upd_n h2, upd_n h2]; unfold cpB; rw [if_neg (by omega)]
  | succ j ih =>
    intro fu i w hi hf hw
    obtain ⟨f, rfl⟩ : ∃ f, fu = f + 1 := ⟨fu - 1, by omega⟩
    unfold lp_X9_copyFrom_83
    rw [sg_s, hw, if_neg (nI_ge (by omega) (by omega)), if_pos (vin_nI (by omega) (by decide)), if_pos (vin_nI (by omega) (by decide)), nI_clamp (by omega), e_bellCopy h, bnd2_s, nI_1]
    rw [ih f (i + 1) _ (by omega) (by omega) (by unfold cpB; rw [if_neg (by omega)]; exact hw)]
    refine congrArg some (Prod.ext rfl (congrArg (sg M k) (congrArg (fun z => cpO (upd z 53 (nI m)) (M k2) 0 m) ?_)))
    funext q
    unfold cpB
    by_cases h1 : 54 + 8 * (i + 1) ≤ q ∧ q < 54 + 8 * n
    · rw [if_pos h1, if_pos (by omega)]
    · rw [if_neg h1]
      by_cases h2 : 54 + 8 * i ≤ q ∧ q < 54 + 8 * (i + 1)
      · rw [if_pos h2, if_pos (by omega)]
      · rw [if_neg h2, if_neg (by omega)]

