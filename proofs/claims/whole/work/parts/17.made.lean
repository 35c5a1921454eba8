/-! What the constructors make: their functions in closed form. -/
theorem bnd1_s {α β : Type} (a : α) (F : α → Option β) : bnd1 (some a) F = F a := rfl
theorem bnd2_s {α γ β : Type} (a : α) (b : γ) (F : α → γ → Option β) : bnd2 (some (a, b)) F = F a b := rfl
theorem letC_e {β : Type} (a : CT) (f : CT → β) : letC a f = f a := rfl
theorem upC_s (ct : CT) (o : Nat) (e : CE) : upC ct o e o = e := by simp [upC]
theorem upC_n {ct : CT} {o q : Nat} {e : CE} (h : q ≠ o) : upC ct o e q = ct q := by simp [upC, h]
theorem upC_id {ct : CT} {o : Nat} {e : CE} (h : ct o = e) : upC ct o e = ct := by
  funext q
  by_cases hq : q = o
  · subst hq; simp [upC, h]
  · simp [upC, hq]
theorem upC_up (ct : CT) (o : Nat) (e e' : CE) : upC (upC ct o e) o e' = upC ct o e' := by
  funext q
  by_cases hq : q = o <;> simp [upC, hq]
theorem upC_sw {ct : CT} {o o' : Nat} {e e' : CE} (h : o ≠ o') : upC (upC ct o e) o' e' = upC (upC ct o' e') o e := by
  funext q
  by_cases hq : q = o
  · subst hq; simp [upC, h]
  · by_cases hq' : q = o'
    · subst hq'; simp [upC, hq]
    · simp [upC, hq, hq']
theorem p_X6 {n o : Nat} {ct : CT} (ho : o < n) (h : ct o = cMx 0 0) : f_X6_init n ct o = some (n, ct) := by
  unfold f_X6_init
  simp only [letC_e, h, isO, fsOf, ho, upC_s, upC_up]
  simp [upC_id h]
theorem p_X7 {n o : Nat} {ct : CT} (ho : o < n) (h : ct o = .inl (7, [.inl 0, .inl 0, .inl 0, .inl 0])) : f_X7_init n ct o = some (n, ct) := by
  unfold f_X7_init
  simp only [letC_e, h, isO, fsOf, ho, upC_s, upC_up]
  simp [upC_id h]
theorem p_X4 {n o : Nat} {ct : CT} (ho : o < n) (h : ct o = .inl (4, [.inl 0, .inl 0, .inl 0])) : f_X4_init n ct o = some (n, upC ct o (.inl (4, [.inl 0, .inl 0, .inl 1]))) := by
  unfold f_X4_init
  simp only [letC_e, h, isO, fsOf, ho, upC_s, upC_up]
  simp
theorem p_X5 {n o : Nat} {ct : CT} (ho : o < n) (h : ct o = .inl (5, [.inr none, .inl 0])) : f_X5_init n ct o = some (n + 1, upC (upC ct n (cMx 0 0)) o (.inl (5, [cR n, cI 0]))) := by
  have hne : o ≠ n := by omega
  unfold f_X5_init
  rw [letC_e, p_X6 (by omega) (upC_s _ _ _), bnd2_s]
  simp only [letC_e, isO, fsOf, upC_s, upC_up, upC_n hne, h]
  simp [show o < n + 1 by omega]
theorem p_X0 {n o : Nat} {ct : CT} (ho : o < n) (h : ct o = .inl (0, [.inr none, .inl 0, .inl 0, .inl 0, .inl 0, .inl 0, .inl 0])) : f_X0_init n ct o = some (n + 1, upC (upC ct n (cMx 0 0)) o (.inl (0, [cR n, cI 0, cI 0, cI 0, cI 0, cI 0, cI 0]))) := by
  have hne : o ≠ n := by omega
  unfold f_X0_init
  rw [letC_e, p_X6 (by omega) (upC_s _ _ _), bnd2_s]
  simp only [letC_e, isO, fsOf, upC_s, upC_up, upC_n hne, h]
  simp [show o < n + 1 by omega]
-- BLOCKS
def blk (ct : CT) (n d : Nat) (t : Nat → CE) : CT := fun q => if n ≤ q ∧ q < n + d then t (q - n) else ct q
theorem blk_lo {ct : CT} {n d q : Nat} {t : Nat → CE} (h : q < n) : blk ct n d t q = ct q := by unfold blk; rw [if_neg (by omega)]
theorem blk_in {ct : CT} {n d q : Nat} {t : Nat → CE} (h1 : n ≤ q) (h2 : q < n + d) : blk ct n d t q = t (q - n) := by unfold blk; rw [if_pos ⟨h1, h2⟩]
theorem blk_hi {ct : CT} {n d q : Nat} {t : Nat → CE} (h : n + d ≤ q) : blk ct n d t q = ct q := by unfold blk; rw [if_neg (by omega)]
def tLot (n e : Nat) : CE := if e = 0 then .inl (5, [cR (n + 1), cI 0]) else cMx 0 0
def tBell (n e : Nat) : CE := if e = 0 then .inl (0, [cR (n + 1), cI 0, cI 0, cI 0, cI 0, cI 0, cI 0]) else cMx 0 0
def tOrd (_ _ : Nat) : CE := .inl (7, [cI 0, cI 0, cI 0, cI 0])
def tLoad (_ _ : Nat) : CE := .inl (4, [cI 0, cI 0, cI 1])
theorem q_X5 (n : Nat) (ct : CT) : f_X5_init (n + 1) (upC ct n (.inl (5, [.inr none, .inl 0]))) n = some (n + 2, blk ct n 2 (tLot n)) := by
  rw [p_X5 (by omega) (upC_s _ _ _)]
  refine congrArg some (Prod.ext rfl ?_)
  funext q
  by_cases h1 : q = n
  · subst h1; simp [upC, blk, tLot]
  · by_cases h2 : q = n + 1
    · subst h2; simp [upC, blk, tLot]
    · have h3 : ¬ (n ≤ q ∧ q < n + 2) := by omega
      simp [upC, blk, h1, h2, h3]
theorem q_X0 (n : Nat) (ct : CT) : f_X0_init (n + 1) (upC ct n (.inl (0, [.inr none, .inl 0, .inl 0, .inl 0, .inl 0, .inl 0, .inl 0]))) n = some (n + 2, blk ct n 2 (tBell n)) := by
  rw [p_X0 (by omega) (upC_s _ _ _)]
  refine congrArg some (Prod.ext rfl ?_)
  funext q
  by_cases h1 : q = n
  · subst h1; simp [upC, blk, tBell]
  · by_cases h2 : q = n + 1
    · subst h2; simp [upC, blk, tBell]
    · have h3 : ¬ (n ≤ q ∧ q < n + 2) := by omega
      simp [upC, blk, h1, h2, h3]
theorem q_X7 (n : Nat) (ct : CT) : f_X7_init (n + 1) (upC ct n (.inl (7, [.inl 0, .inl 0, .inl 0, .inl 0]))) n = some (n + 1, blk ct n 1 (tOrd n)) := by
  rw [p_X7 (by omega) (upC_s _ _ _)]
  refine congrArg some (Prod.ext rfl ?_)
  funext q
  by_cases h1 : q = n
  · subst h1; simp [upC, blk, tOrd]
  · have h3 : ¬ (n ≤ q ∧ q < n + 1) := by omega
    simp [upC, blk, h1, h3]
theorem q_X4 (n : Nat) (ct : CT) : f_X4_init (n + 1) (upC ct n (.inl (4, [.inl 0, .inl 0, .inl 0]))) n = some (n + 1, blk ct n 1 (tLoad n)) := by
  rw [p_X4 (by omega) (upC_s _ _ _)]
  refine congrArg some (Prod.ext rfl ?_)
  funext q
  by_cases h1 : q = n
  · subst h1; simp [upC, blk, tLoad]
  · have h3 : ¬ (n ≤ q ∧ q < n + 1) := by omega
    simp [upC, blk, h1, h3]
def rowC (j len n0 d i : Nat) : CE := .inr (j, len, .inr (fun r => if r < i then some (n0 + d * r) else none))
theorem rowC_up (n0 d i : Nat) : va_up (fun r => if r < i then some (n0 + d * r) else none) i (some (n0 + d * i)) = fun r => if r < i + 1 then some (n0 + d * r) else none := by
  funext r
  unfold va_up
  by_cases h : r = i
  · subst h; simp
  · by_cases h2 : r < i
    · rw [if_neg h, if_pos (by omega)]; exact if_pos h2
    · rw [if_neg h, if_neg (by omega)]; exact if_neg h2
def SH (n0 a : Nat) (ct : CT) (i : Nat) : CT := upC (blk ct n0 (2 * i) (fun e => tLot (n0 + 2 * (e / 2)) (e % 2))) a (rowC 3 12 n0 2 i)
theorem SH_up {n0 a : Nat} {ct : CT} {i : Nat} (ha : a < n0) : upC (blk (SH n0 a ct i) (n0 + 2 * i) 2 (tLot (n0 + 2 * i))) a (rowC 3 12 n0 2 (i + 1)) = SH n0 a ct (i + 1) := by
  funext q
  by_cases hq : q = a
  · subst hq; unfold SH; rw [upC_s, upC_s]
  · rw [upC_n hq]
    unfold SH
    rw [upC_n hq]
    by_cases h1 : q < n0
    · rw [blk_lo (by omega), upC_n hq, blk_lo h1, blk_lo h1]
    · by_cases h2 : q < n0 + 2 * i
      · rw [blk_lo h2, upC_n hq, blk_in (by omega) h2, blk_in (by omega) (by omega)]
      · by_cases h3 : q < n0 + 2 * i + 2
        · rw [blk_in (by omega) h3, blk_in (by omega) (by omega), show (q - n0) / 2 = i by omega, show (q - n0) % 2 = q - (n0 + 2 * i) by omega]
        · rw [blk_hi (by omega), upC_n hq, blk_hi (by omega), blk_hi (by omega)]
set_option maxRecDepth 100000 in
theorem lp_H {n0 a o kc ks : Nat} {ct : CT} (ho : o < n0) (ha : a < n0) (hoa : o ≠ a) (hc : ct o = .inl (2, [cR a, cI 0])) (hk1 : kc + 24 ≤ 25) (hk2 : ks + 48 ≤ 60) : ∀ (j fu i : Nat), i + j = 12 → j < fu → lp_X2_init_20 fu (n0 + 2 * i) (SH n0 a ct i) (kc + 2 * i) (ks + 4 * i) o (nI i) = some (n0 + 24, SH n0 a ct 12) := by
  intro j
  induction j with
  | zero =>
    intro fu i hi hf
    obtain ⟨f, rfl⟩ : ∃ f, fu = f + 1 := ⟨fu - 1, by omega⟩
    obtain rfl : i = 12 := by omega
    unfold lp_X2_init_20
    have e1 : SH n0 a ct 12 o = .inl (2, [cR a, cI 0]) := by unfold SH; rw [upC_n hoa, blk_lo ho]; exact hc
    have e2 : SH n0 a ct 12 a = rowC 3 12 n0 2 12 := upC_s _ _ _
    rw [if_pos ⟨by omega, by rw [e1]; rfl⟩, show getR (SH n0 a ct 12 o) 0 = some a by rw [e1]; rfl, bnd1_s, if_pos ⟨by omega, by rw [e2]; rfl⟩, show lenOf (SH n0 a ct 12 a) = 12 by rw [e2]; rfl, if_pos (by decide)]
    rw [if_pos ⟨by omega, by omega⟩]
  | succ j ih =>
    intro fu i hi hf
    obtain ⟨f, rfl⟩ : ∃ f, fu = f + 1 := ⟨fu - 1, by omega⟩
    unfold lp_X2_init_20
    have e1 : SH n0 a ct i o = .inl (2, [cR a, cI 0]) := by unfold SH; rw [upC_n hoa, blk_lo ho]; exact hc
    have e2 : SH n0 a ct i a = rowC 3 12 n0 2 i := upC_s _ _ _
    have e3 : blk (SH n0 a ct i) (n0 + 2 * i) 2 (tLot (n0 + 2 * i)) a = rowC 3 12 n0 2 i := by rw [blk_lo (by omega), e2]
    have e4 : isO (blk (SH n0 a ct i) (n0 + 2 * i) 2 (tLot (n0 + 2 * i)) (n0 + 2 * i)) 5 = true := by rw [blk_in (Nat.le_refl _) (by omega), Nat.sub_self]; rfl
    have e5 : ¬ Int32.ofNat 12 ≤ nI i := nI_ge (b := 12) (by omega) (by decide)
    rw [if_pos ⟨by omega, by rw [e1]; rfl⟩, show getR (SH n0 a ct i o) 0 = some a by rw [e1]; rfl, bnd1_s, if_pos ⟨by omega, by rw [e2]; rfl⟩, show lenOf (SH n0 a ct i a) = 12 by rw [e2]; rfl, if_neg e5]
    rw [if_pos ⟨by omega, by rw [e1]; rfl⟩, bnd1_s, if_pos ⟨by omega, by omega⟩, letC_e, if_pos ⟨by omega, by omega⟩, q_X5, bnd2_s]
    rw [if_pos ⟨by omega, by rw [e3]; rfl, by omega, e4, by rw [e3]; exact nI_in (by show i < 12; omega) (by show 12 < 2 ^ 31; decide)⟩, letC_e, nI_1, e3, nI_clamp (by omega)]
    rw [show (.inr (3, lenOf (rowC 3 12 n0 2 i), .inr (va_up (rfOf (rowC 3 12 n0 2 i)) i (some (n0 + 2 * i)))) : CE) = rowC 3 12 n0 2 (i + 1) from congrArg (fun z => (.inr (3, 12, .inr z) : CE)) (rowC_up n0 2 i), SH_up ha]
    have h9 := ih f (i + 1) (by omega) (by omega)
    rw [show n0 + 2 * (i + 1) = n0 + 2 * i + 2 by omega, show kc + 2 * (i + 1) = kc + 2 * i + 1 + 1 by omega, show ks + 4 * (i + 1) = ks + 4 * i + 2 + 2 by omega] at h9
    exact h9
