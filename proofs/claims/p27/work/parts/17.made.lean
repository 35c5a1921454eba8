/-! What the constructors make: their functions in closed form. -/
theorem bnd1_s {α β : Type} (a : α) (F : α → Option β) : bnd1 (some a) F = F a := rfl
theorem bnd2_s {α γ β : Type} (a : α) (b : γ) (F : α → γ → Option β) : bnd2 (some (a, b)) F = F a b := rfl
theorem letC_e {β : Type} (a : CT) (f : CT → β) : letC a f = f a := rfl
theorem upC_s (ct : CT) (o : Nat) (e : CE) : upC ct o e o = e := by simp [upC]
theorem upC_n {ct : CT} {o q : Nat} {e : CE} (h : q ≠ o) : upC ct o e q = ct q := by simp [upC, h]
theorem upC_id {ct : CT} {o : Nat} {e : CE} (h : ct o = e) : upC ct o e = ct := by
  funext q
  by_cases hq : q = o
  · subst hq; simp [upC, h]
  · simp [upC, hq]
theorem upC_up (ct : CT) (o : Nat) (e e' : CE) : upC (upC ct o e) o e' = upC ct o e' := by
  funext q
  by_cases hq : q = o <;> simp [upC, hq]
theorem upC_sw {ct : CT} {o o' : Nat} {e e' : CE} (h : o ≠ o') : upC (upC ct o e) o' e' = upC (upC ct o' e') o e := by
  funext q
  by_cases hq : q = o
  · subst hq; simp [upC, h]
  · by_cases hq' : q = o'
    · subst hq'; simp [upC, hq]
    · simp [upC, hq, hq']
theorem p_X6 {n o : Nat} {ct : CT} (ho : o < n) (h : ct o = cMx 0 0) : f_X6_init n ct o = some (n, ct) := by
  unfold f_X6_init
  simp only [letC_e, h, isO, fsOf, ho, upC_s, upC_up]
  simp [upC_id h]
theorem p_X7 {n o : Nat} {ct : CT} (ho : o < n) (h : ct o = .inl (7, [.inl 0, .inl 0, .inl 0, .inl 0])) : f_X7_init n ct o = some (n, ct) := by
  unfold f_X7_init
  simp only [letC_e, h, isO, fsOf, ho, upC_s, upC_up]
  simp [upC_id h]
theorem p_X4 {n o : Nat} {ct : CT} (ho : o < n) (h : ct o = .inl (4, [.inl 0, .inl 0, .inl 0])) : f_X4_init n ct o = some (n, upC ct o (.inl (4, [.inl 0, .inl 0, .inl 1]))) := by
  unfold f_X4_init
  simp only [letC_e, h, isO, fsOf, ho, upC_s, upC_up]
  simp
theorem p_X5 {n o : Nat} {ct : CT} (ho : o < n) (h : ct o = .inl (5, [.inr none, .inl 0])) : f_X5_init n ct o = some (n + 1, upC (upC ct n (cMx 0 0)) o (.inl (5, [cR n, cI 0]))) := by
  have hne : o ≠ n := by omega
  unfold f_X5_init
  rw [letC_e, p_X6 (by omega) (upC_s _ _ _), bnd2_s]
  simp only [letC_e, isO, fsOf, upC_s, upC_up, upC_n hne, h]
  simp [show o < n + 1 by omega]
theorem p_X0 {n o : Nat} {ct : CT} (ho : o < n) (h : ct o = .inl (0, [.inr none, .inl 0, .inl 0, .inl 0, .inl 0, .inl 0, .inl 0])) : f_X0_init n ct o = some (n + 1, upC (upC ct n (cMx 0 0)) o (.inl (0, [cR n, cI 0, cI 0, cI 0, cI 0, cI 0, cI 0]))) := by
  have hne : o ≠ n := by omega
  unfold f_X0_init
  rw [letC_e, p_X6 (by omega) (upC_s _ _ _), bnd2_s]
  simp only [letC_e, isO, fsOf, upC_s, upC_up, upC_n hne, h]
  simp [show o < n + 1 by omega]
-- BLOCKS
def blk (ct : CT) (n d : Nat) (t : Nat → CE) : CT := fun q => if n ≤ q ∧ q < n + d then t (q - n) else ct q
theorem blk_lo {ct : CT} {n d q : Nat} {t : Nat → CE} (h : q < n) : blk ct n d t q = ct q := by unfold blk; rw [if_neg (by omega)]
theorem blk_in {ct : CT} {n d q : Nat} {t : Nat → CE} (h1 : n ≤ q) (h2 : q < n + d) : blk ct n d t q = t (q - n) := by unfold blk; rw [if_pos ⟨h1, h2⟩]
theorem blk_hi {ct : CT} {n d q : Nat} {t : Nat → CE} (h : n + d ≤ q) : blk ct n d t q = ct q := by unfold blk; rw [if_neg (by omega)]
def tLot (n e : Nat) : CE := if e = 0 then .inl (5, [cR (n + 1), cI 0]) else cMx 0 0
def tBell (n e : Nat) : CE := if e = 0 then .inl (0, [cR (n + 1), cI 0, cI 0, cI 0, cI 0, cI 0, cI 0]) else cMx 0 0
def tOrd (_ _ : Nat) : CE := .inl (7, [cI 0, cI 0, cI 0, cI 0])
def tLoad (_ _ : Nat) : CE := .inl (4, [cI 0, cI 0, cI 1])
theorem q_X5 (n : Nat) (ct : CT) : f_X5_init (n + 1) (upC ct n (.inl (5, [.inr none, .inl 0]))) n = some (n + 2, blk ct n 2 (tLot n)) := by
  rw [p_X5 (by omega) (upC_s _ _ _)]
  refine congrArg some (Prod.ext rfl ?_)
  funext q
  by_cases h1 : q = n
  · subst h1; simp [upC, blk, tLot]
  · by_cases h2 : q = n + 1
    · subst h2; simp [upC, blk, tLot]
    · have h3 : ¬ (n ≤ q ∧ q < n + 2) := by omega
      simp [upC, blk, h1, h2, h3]
theorem q_X0 (n : Nat) (ct : CT) : f_X0_init (n + 1) (upC ct n (.inl (0, [.inr none, .inl 0, .inl 0, .inl 0, .inl 0, .inl 0, .inl 0]))) n = some (n + 2, blk ct n 2 (tBell n)) := by
  rw [p_X0 (by omega) (upC_s _ _ _)]
  refine congrArg some (Prod.ext rfl ?_)
  funext q
  by_cases h1 : q = n
  · subst h1; simp [upC, blk, tBell]
  · by_cases h2 : q = n + 1
    · subst h2; simp [upC, blk, tBell]
    · have h3 : ¬ (n ≤ q ∧ q < n + 2) := by omega
      simp [upC, blk, h1, h2, h3]
theorem q_X7 (n : Nat) (ct : CT) : f_X7_init (n + 1) (upC ct n (.inl (7, [.inl 0, .inl 0, .inl 0, .inl 0]))) n = some (n + 1, blk ct n 1 (tOrd n)) := by
  rw [p_X7 (by omega) (upC_s _ _ _)]
  refine congrArg some (Prod.ext rfl ?_)
  funext q
  by_cases h1 : q = n
  · subst h1; simp [upC, blk, tOrd]
  · have h3 : ¬ (n ≤ q ∧ q < n + 1) := by omega
    simp [upC, blk, h1, h3]
theorem q_X4 (n : Nat) (ct : CT) : f_X4_init (n + 1) (upC ct n (.inl (4, [.inl 0, .inl 0, .inl 0]))) n = some (n + 1, blk ct n 1 (tLoad n)) := by
  rw [p_X4 (by omega) (upC_s _ _ _)]
  refine congrArg some (Prod.ext rfl ?_)
  funext q
  by_cases h1 : q = n
  · subst h1; simp [upC, blk, tLoad]
  · have h3 : ¬ (n ≤ q ∧ q < n + 1) := by omega
    simp [upC, blk, h1, h3]
def rowC (j len n0 d i : Nat) : CE := .inr (j, len, .inr (fun r => if r < i then some (n0 + d * r) else none))
theorem rowC_up (n0 d i : Nat) : va_up (fun r => if r < i then some (n0 + d * r) else none) i (some (n0 + d * i)) = fun r => if r < i + 1 then some (n0 + d * r) else none := by
  funext r
  unfold va_up
  by_cases h : r = i
  · subst h; simp
  · by_cases h2 : r < i
    · rw [if_neg h, if_pos (by omega)]; exact if_pos h2
    · rw [if_neg h, if_neg (by omega)]; exact if_neg h2
def SH (n0 a : Nat) (ct : CT) (i : Nat) : CT := upC (blk ct n0 (2 * i) (fun e => tLot (n0 + 2 * (e / 2)) (e % 2))) a (rowC 3 12 n0 2 i)
set_option maxRecDepth 100000 in
theorem SH_up {n0 a : Nat} {ct : CT} {i : Nat} (ha : a < n0) : upC (blk (SH n0 a ct i) (n0 + 2 * i) 2 (tLot (n0 + 2 * i))) a (rowC 3 12 n0 2 (i + 1)) = SH n0 a ct (i + 1) := by
  funext q
  by_cases hq : q = a
  · subst hq; unfold SH; rw [upC_s, upC_s]
  · rw [upC_n hq]
    unfold SH
    rw [upC_n hq]
    by_cases h1 : q < n0
    · rw [blk_lo (by omega), upC_n hq, blk_lo h1, blk_lo h1]
    · by_cases h2 : q < n0 + 2 * i
      · rw [blk_lo h2, upC_n hq, blk_in (by omega) h2, blk_in (by omega) (by omega)]
      · by_cases h3 : q < n0 + 2 * i + 2
        · rw [blk_in (by omega) h3, blk_in (by omega) (by omega), show (q - n0) / 2 = i by omega, show (q - n0) % 2 = q - (n0 + 2 * i) by omega]
        · rw [blk_hi (by omega), upC_n hq, blk_hi (by omega), blk_hi (by omega)]
set_option maxRecDepth 100000 in
theorem lp_H {n0 a o kc ks : Nat} {ct : CT} (ho : o < n0) (ha : a < n0) (hoa : o ≠ a) {fs : List CV} (hc : ct o = .inl (2, fs)) (hgr : getR (.inl (2, fs)) 0 = some a) (hk1 : kc + 24 ≤ 25) (hk2 : ks + 48 ≤ 60) : ∀ (j fu i : Nat), i + j = 12 → j < fu → lp_X2_init_20 fu (n0 + 2 * i) (SH n0 a ct i) (kc + 2 * i) (ks + 4 * i) o (nI i) = some (n0 + 24, SH n0 a ct 12) := by
  intro j
  induction j with
  | zero =>
    intro fu i hi hf
    obtain ⟨f, rfl⟩ : ∃ f, fu = f + 1 := ⟨fu - 1, by omega⟩
    obtain rfl : i = 12 := by omega
    unfold lp_X2_init_20
    have e1 : SH n0 a ct 12 o = .inl (2, fs) := by unfold SH; rw [upC_n hoa, blk_lo ho]; exact hc
    have e2 : SH n0 a ct 12 a = rowC 3 12 n0 2 12 := upC_s _ _ _
    rw [if_pos ⟨by omega, by rw [e1]; rfl⟩, show getR (SH n0 a ct 12 o) 0 = some a by rw [e1]; exact hgr, bnd1_s, if_pos ⟨by omega, by rw [e2]; rfl⟩, show lenOf (SH n0 a ct 12 a) = 12 by rw [e2]; rfl, if_pos (by decide)]
    rw [if_pos ⟨by omega, by omega⟩]
  | succ j ih =>
    intro fu i hi hf
    obtain ⟨f, rfl⟩ : ∃ f, fu = f + 1 := ⟨fu - 1, by omega⟩
    unfold lp_X2_init_20
    have e1 : SH n0 a ct i o = .inl (2, fs) := by unfold SH; rw [upC_n hoa, blk_lo ho]; exact hc
    have e2 : SH n0 a ct i a = rowC 3 12 n0 2 i := upC_s _ _ _
    have e3 : blk (SH n0 a ct i) (n0 + 2 * i) 2 (tLot (n0 + 2 * i)) a = rowC 3 12 n0 2 i := by rw [blk_lo (by omega), e2]
    have e4 : isO (blk (SH n0 a ct i) (n0 + 2 * i) 2 (tLot (n0 + 2 * i)) (n0 + 2 * i)) 5 = true := by rw [blk_in (Nat.le_refl _) (by omega), Nat.sub_self]; rfl
    have e5 : ¬ Int32.ofNat 12 ≤ nI i := nI_ge (b := 12) (by omega) (by decide)
    rw [if_pos ⟨by omega, by rw [e1]; rfl⟩, show getR (SH n0 a ct i o) 0 = some a by rw [e1]; exact hgr, bnd1_s, if_pos ⟨by omega, by rw [e2]; rfl⟩, show lenOf (SH n0 a ct i a) = 12 by rw [e2]; rfl, if_neg e5]
    rw [if_pos ⟨by omega, by rw [e1]; rfl⟩, bnd1_s, if_pos ⟨by omega, by omega⟩, letC_e, if_pos ⟨by omega, by omega⟩, q_X5, bnd2_s]
    rw [if_pos ⟨by omega, by rw [e3]; rfl, by omega, e4, by rw [e3]; exact nI_in (by show i < 12; omega) (by show 12 < 2 ^ 31; decide)⟩, letC_e, nI_1, e3, nI_clamp (by omega)]
    rw [show (.inr (3, lenOf (rowC 3 12 n0 2 i), .inr (va_up (rfOf (rowC 3 12 n0 2 i)) i (some (n0 + 2 * i)))) : CE) = rowC 3 12 n0 2 (i + 1) from congrArg (fun z => (.inr (3, 12, .inr z) : CE)) (rowC_up n0 2 i), SH_up ha]
    have h9 := ih f (i + 1) (by omega) (by omega)
    rw [show n0 + 2 * (i + 1) = n0 + 2 * i + 2 by omega, show kc + 2 * (i + 1) = kc + 2 * i + 1 + 1 by omega, show ks + 4 * (i + 1) = ks + 4 * i + 2 + 2 by omega] at h9
    exact h9
def SO (n0 a : Nat) (ct : CT) (i : Nat) : CT := upC (blk ct n0 (1 * i) (fun e => tOrd (n0 + 1 * (e / 1)) (e % 1))) a (rowC 5 100 n0 1 i)
set_option maxRecDepth 100000 in
theorem SO_up {n0 a : Nat} {ct : CT} {i : Nat} (ha : a < n0) : upC (blk (SO n0 a ct i) (n0 + 1 * i) 1 (tOrd (n0 + 1 * i))) a (rowC 5 100 n0 1 (i + 1)) = SO n0 a ct (i + 1) := by
  funext q
  by_cases hq : q = a
  · subst hq; unfold SO; rw [upC_s, upC_s]
  · rw [upC_n hq]
    unfold SO
    rw [upC_n hq]
    by_cases h1 : q < n0
    · rw [blk_lo (by omega), upC_n hq, blk_lo h1, blk_lo h1]
    · by_cases h2 : q < n0 + 1 * i
      · rw [blk_lo h2, upC_n hq, blk_in (by omega) h2, blk_in (by omega) (by omega)]
      · by_cases h3 : q < n0 + 1 * i + 1
        · rw [blk_in (by omega) h3, blk_in (by omega) (by omega), show (q - n0) / 1 = i by omega, show (q - n0) % 1 = q - (n0 + 1 * i) by omega]
        · rw [blk_hi (by omega), upC_n hq, blk_hi (by omega), blk_hi (by omega)]
set_option maxRecDepth 100000 in
theorem lp_O {n0 a o kc ks : Nat} {ct : CT} (ho : o < n0) (ha : a < n0) (hoa : o ≠ a) {fs : List CV} (hc : ct o = .inl (9, fs)) (hgr : getR (.inl (9, fs)) 7 = some a) (hk1 : kc + 100 ≤ 335) (hk2 : ks + 400 ≤ 1581) : ∀ (j fu i : Nat), i + j = 100 → j < fu → lp_X9_init_154 fu (n0 + 1 * i) (SO n0 a ct i) (kc + 1 * i) (ks + 4 * i) o (nI i) = some (n0 + 100, SO n0 a ct 100) := by
  intro j
  induction j with
  | zero =>
    intro fu i hi hf
    obtain ⟨f, rfl⟩ : ∃ f, fu = f + 1 := ⟨fu - 1, by omega⟩
    obtain rfl : i = 100 := by omega
    unfold lp_X9_init_154
    have e1 : SO n0 a ct 100 o = .inl (9, fs) := by unfold SO; rw [upC_n hoa, blk_lo ho]; exact hc
    have e2 : SO n0 a ct 100 a = rowC 5 100 n0 1 100 := upC_s _ _ _
    rw [if_pos ⟨by omega, by rw [e1]; rfl⟩, show getR (SO n0 a ct 100 o) 7 = some a by rw [e1]; exact hgr, bnd1_s, if_pos ⟨by omega, by rw [e2]; rfl⟩, show lenOf (SO n0 a ct 100 a) = 100 by rw [e2]; rfl, if_pos (by decide)]
    rw [if_pos ⟨by omega, by omega⟩]
  | succ j ih =>
    intro fu i hi hf
    obtain ⟨f, rfl⟩ : ∃ f, fu = f + 1 := ⟨fu - 1, by omega⟩
    unfold lp_X9_init_154
    have e1 : SO n0 a ct i o = .inl (9, fs) := by unfold SO; rw [upC_n hoa, blk_lo ho]; exact hc
    have e2 : SO n0 a ct i a = rowC 5 100 n0 1 i := upC_s _ _ _
    have e3 : blk (SO n0 a ct i) (n0 + 1 * i) 1 (tOrd (n0 + 1 * i)) a = rowC 5 100 n0 1 i := by rw [blk_lo (by omega), e2]
    have e4 : isO (blk (SO n0 a ct i) (n0 + 1 * i) 1 (tOrd (n0 + 1 * i)) (n0 + 1 * i)) 7 = true := by rw [blk_in (Nat.le_refl _) (by omega), Nat.sub_self]; rfl
    have e5 : ¬ Int32.ofNat 100 ≤ nI i := nI_ge (b := 100) (by omega) (by decide)
    rw [if_pos ⟨by omega, by rw [e1]; rfl⟩, show getR (SO n0 a ct i o) 7 = some a by rw [e1]; exact hgr, bnd1_s, if_pos ⟨by omega, by rw [e2]; rfl⟩, show lenOf (SO n0 a ct i a) = 100 by rw [e2]; rfl, if_neg e5]
    rw [if_pos ⟨by omega, by rw [e1]; rfl⟩, bnd1_s, if_pos ⟨by omega, by omega⟩, letC_e, if_pos ⟨by omega, by omega⟩, q_X7, bnd2_s]
    rw [if_pos ⟨by omega, by rw [e3]; rfl, by omega, e4, by rw [e3]; exact nI_in (by show i < 100; omega) (by show 100 < 2 ^ 31; decide)⟩, letC_e, nI_1, e3, nI_clamp (by omega)]
    rw [show (.inr (5, lenOf (rowC 5 100 n0 1 i), .inr (va_up (rfOf (rowC 5 100 n0 1 i)) i (some (n0 + 1 * i)))) : CE) = rowC 5 100 n0 1 (i + 1) from congrArg (fun z => (.inr (5, 100, .inr z) : CE)) (rowC_up n0 1 i), SO_up ha]
    have h9 := ih f (i + 1) (by omega) (by omega)
    rw [show n0 + 1 * (i + 1) = n0 + 1 * i + 1 by omega, show kc + 1 * (i + 1) = kc + 1 * i + 1 + 0 by omega, show ks + 4 * (i + 1) = ks + 4 * i + 4 + 0 by omega] at h9
    exact h9
def SB (n0 a : Nat) (ct : CT) (i : Nat) : CT := upC (blk ct n0 (2 * i) (fun e => tBell (n0 + 2 * (e / 2)) (e % 2))) a (rowC 4 100 n0 2 i)
set_option maxRecDepth 100000 in
theorem SB_up {n0 a : Nat} {ct : CT} {i : Nat} (ha : a < n0) : upC (blk (SB n0 a ct i) (n0 + 2 * i) 2 (tBell (n0 + 2 * i))) a (rowC 4 100 n0 2 (i + 1)) = SB n0 a ct (i + 1) := by
  funext q
  by_cases hq : q = a
  · subst hq; unfold SB; rw [upC_s, upC_s]
  · rw [upC_n hq]
    unfold SB
    rw [upC_n hq]
    by_cases h1 : q < n0
    · rw [blk_lo (by omega), upC_n hq, blk_lo h1, blk_lo h1]
    · by_cases h2 : q < n0 + 2 * i
      · rw [blk_lo h2, upC_n hq, blk_in (by omega) h2, blk_in (by omega) (by omega)]
      · by_cases h3 : q < n0 + 2 * i + 2
        · rw [blk_in (by omega) h3, blk_in (by omega) (by omega), show (q - n0) / 2 = i by omega, show (q - n0) % 2 = q - (n0 + 2 * i) by omega]
        · rw [blk_hi (by omega), upC_n hq, blk_hi (by omega), blk_hi (by omega)]
set_option maxRecDepth 100000 in
theorem lp_B {n0 a o kc ks : Nat} {ct : CT} (ho : o < n0) (ha : a < n0) (hoa : o ≠ a) {fs : List CV} (hc : ct o = .inl (9, fs)) (hgr : getR (.inl (9, fs)) 6 = some a) (hk1 : kc + 200 ≤ 335) (hk2 : ks + 900 ≤ 1581) : ∀ (j fu i : Nat), i + j = 100 → j < fu → lp_X9_init_124 fu (n0 + 2 * i) (SB n0 a ct i) (kc + 2 * i) (ks + 9 * i) o (nI i) = lp_X9_init_154 FU (n0 + 2 * 100) (SB n0 a ct 100) (kc + 2 * 100) (ks + 9 * 100) o 0 := by
  intro j
  induction j with
  | zero =>
    intro fu i hi hf
    obtain ⟨f, rfl⟩ : ∃ f, fu = f + 1 := ⟨fu - 1, by omega⟩
    obtain rfl : i = 100 := by omega
    unfold lp_X9_init_124
    have e1 : SB n0 a ct 100 o = .inl (9, fs) := by unfold SB; rw [upC_n hoa, blk_lo ho]; exact hc
    have e2 : SB n0 a ct 100 a = rowC 4 100 n0 2 100 := upC_s _ _ _
    rw [if_pos ⟨by omega, by rw [e1]; rfl⟩, show getR (SB n0 a ct 100 o) 6 = some a by rw [e1]; exact hgr, bnd1_s, if_pos ⟨by omega, by rw [e2]; rfl⟩, show lenOf (SB n0 a ct 100 a) = 100 by rw [e2]; rfl, if_pos (by decide)]

  | succ j ih =>
    intro fu i hi hf
    obtain ⟨f, rfl⟩ : ∃ f, fu = f + 1 := ⟨fu - 1, by omega⟩
    unfold lp_X9_init_124
    have e1 : SB n0 a ct i o = .inl (9, fs) := by unfold SB; rw [upC_n hoa, blk_lo ho]; exact hc
    have e2 : SB n0 a ct i a = rowC 4 100 n0 2 i := upC_s _ _ _
    have e3 : blk (SB n0 a ct i) (n0 + 2 * i) 2 (tBell (n0 + 2 * i)) a = rowC 4 100 n0 2 i := by rw [blk_lo (by omega), e2]
    have e4 : isO (blk (SB n0 a ct i) (n0 + 2 * i) 2 (tBell (n0 + 2 * i)) (n0 + 2 * i)) 0 = true := by rw [blk_in (Nat.le_refl _) (by omega), Nat.sub_self]; rfl
    have e5 : ¬ Int32.ofNat 100 ≤ nI i := nI_ge (b := 100) (by omega) (by decide)
    rw [if_pos ⟨by omega, by rw [e1]; rfl⟩, show getR (SB n0 a ct i o) 6 = some a by rw [e1]; exact hgr, bnd1_s, if_pos ⟨by omega, by rw [e2]; rfl⟩, show lenOf (SB n0 a ct i a) = 100 by rw [e2]; rfl, if_neg e5]
    rw [if_pos ⟨by omega, by rw [e1]; rfl⟩, bnd1_s, if_pos ⟨by omega, by omega⟩, letC_e, if_pos ⟨by omega, by omega⟩, q_X0, bnd2_s]
    rw [if_pos ⟨by omega, by rw [e3]; rfl, by omega, e4, by rw [e3]; exact nI_in (by show i < 100; omega) (by show 100 < 2 ^ 31; decide)⟩, letC_e, nI_1, e3, nI_clamp (by omega)]
    rw [show (.inr (4, lenOf (rowC 4 100 n0 2 i), .inr (va_up (rfOf (rowC 4 100 n0 2 i)) i (some (n0 + 2 * i)))) : CE) = rowC 4 100 n0 2 (i + 1) from congrArg (fun z => (.inr (4, 100, .inr z) : CE)) (rowC_up n0 2 i), SB_up ha]
    have h9 := ih f (i + 1) (by omega) (by omega)
    rw [show n0 + 2 * (i + 1) = n0 + 2 * i + 2 by omega, show kc + 2 * (i + 1) = kc + 2 * i + 1 + 1 by omega, show ks + 9 * (i + 1) = ks + 9 * i + 7 + 2 by omega] at h9
    exact h9
def SL (n0 a : Nat) (ct : CT) (i : Nat) : CT := upC (blk ct n0 (1 * i) (fun e => tLoad (n0 + 1 * (e / 1)) (e % 1))) a (rowC 7 5 n0 1 i)
set_option maxRecDepth 100000 in
theorem SL_up {n0 a : Nat} {ct : CT} {i : Nat} (ha : a < n0) : upC (blk (SL n0 a ct i) (n0 + 1 * i) 1 (tLoad (n0 + 1 * i))) a (rowC 7 5 n0 1 (i + 1)) = SL n0 a ct (i + 1) := by
  funext q
  by_cases hq : q = a
  · subst hq; unfold SL; rw [upC_s, upC_s]
  · rw [upC_n hq]
    unfold SL
    rw [upC_n hq]
    by_cases h1 : q < n0
    · rw [blk_lo (by omega), upC_n hq, blk_lo h1, blk_lo h1]
    · by_cases h2 : q < n0 + 1 * i
      · rw [blk_lo h2, upC_n hq, blk_in (by omega) h2, blk_in (by omega) (by omega)]
      · by_cases h3 : q < n0 + 1 * i + 1
        · rw [blk_in (by omega) h3, blk_in (by omega) (by omega), show (q - n0) / 1 = i by omega, show (q - n0) % 1 = q - (n0 + 1 * i) by omega]
        · rw [blk_hi (by omega), upC_n hq, blk_hi (by omega), blk_hi (by omega)]
set_option maxRecDepth 100000 in
theorem lp_L {n0 a o kc ks : Nat} {ct : CT} (ho : o < n0) (ha : a < n0) (hoa : o ≠ a) {fs : List CV} (hc : ct o = .inl (1, fs)) (hgr : getR (.inl (1, fs)) 4 = some a) (hk1 : kc + 5 ≤ 9) (hk2 : ks + 15 ≤ 128) : ∀ (j fu i : Nat), i + j = 5 → j < fu → lp_X1_init_80 fu (n0 + 1 * i) (SL n0 a ct i) (kc + 1 * i) (ks + 3 * i) o (nI i) = some (n0 + 5, SL n0 a ct 5) := by
  intro j
  induction j with
  | zero =>
    intro fu i hi hf
    obtain ⟨f, rfl⟩ : ∃ f, fu = f + 1 := ⟨fu - 1, by omega⟩
    obtain rfl : i = 5 := by omega
    unfold lp_X1_init_80
    have e1 : SL n0 a ct 5 o = .inl (1, fs) := by unfold SL; rw [upC_n hoa, blk_lo ho]; exact hc
    have e2 : SL n0 a ct 5 a = rowC 7 5 n0 1 5 := upC_s _ _ _
    rw [if_pos ⟨by omega, by rw [e1]; rfl⟩, show getR (SL n0 a ct 5 o) 4 = some a by rw [e1]; exact hgr, bnd1_s, if_pos ⟨by omega, by rw [e2]; rfl⟩, show lenOf (SL n0 a ct 5 a) = 5 by rw [e2]; rfl, if_pos (by decide)]
    rw [if_pos ⟨by omega, by omega⟩]
  | succ j ih =>
    intro fu i hi hf
    obtain ⟨f, rfl⟩ : ∃ f, fu = f + 1 := ⟨fu - 1, by omega⟩
    unfold lp_X1_init_80
    have e1 : SL n0 a ct i o = .inl (1, fs) := by unfold SL; rw [upC_n hoa, blk_lo ho]; exact hc
    have e2 : SL n0 a ct i a = rowC 7 5 n0 1 i := upC_s _ _ _
    have e3 : blk (SL n0 a ct i) (n0 + 1 * i) 1 (tLoad (n0 + 1 * i)) a = rowC 7 5 n0 1 i := by rw [blk_lo (by omega), e2]
    have e4 : isO (blk (SL n0 a ct i) (n0 + 1 * i) 1 (tLoad (n0 + 1 * i)) (n0 + 1 * i)) 4 = true := by rw [blk_in (Nat.le_refl _) (by omega), Nat.sub_self]; rfl
    have e5 : ¬ Int32.ofNat 5 ≤ nI i := nI_ge (b := 5) (by omega) (by decide)
    rw [if_pos ⟨by omega, by rw [e1]; rfl⟩, show getR (SL n0 a ct i o) 4 = some a by rw [e1]; exact hgr, bnd1_s, if_pos ⟨by omega, by rw [e2]; rfl⟩, show lenOf (SL n0 a ct i a) = 5 by rw [e2]; rfl, if_neg e5]
    rw [if_pos ⟨by omega, by rw [e1]; rfl⟩, bnd1_s, if_pos ⟨by omega, by omega⟩, letC_e, if_pos ⟨by omega, by omega⟩, q_X4, bnd2_s]
    rw [if_pos ⟨by omega, by rw [e3]; rfl, by omega, e4, by rw [e3]; exact nI_in (by show i < 5; omega) (by show 5 < 2 ^ 31; decide)⟩, letC_e, nI_1, e3, nI_clamp (by omega)]
    rw [show (.inr (7, lenOf (rowC 7 5 n0 1 i), .inr (va_up (rfOf (rowC 7 5 n0 1 i)) i (some (n0 + 1 * i)))) : CE) = rowC 7 5 n0 1 (i + 1) from congrArg (fun z => (.inr (7, 5, .inr z) : CE)) (rowC_up n0 1 i), SL_up ha]
    have h9 := ih f (i + 1) (by omega) (by omega)
    rw [show n0 + 1 * (i + 1) = n0 + 1 * i + 1 by omega, show kc + 1 * (i + 1) = kc + 1 * i + 1 + 0 by omega, show ks + 3 * (i + 1) = ks + 3 * i + 3 + 0 by omega] at h9
    exact h9
def pb (ct : CT) (n d : Nat) (t : Nat → CE) (c : CE) : CT := upC (blk ct n d t) n c
theorem pb_s (ct : CT) (n d : Nat) (t : Nat → CE) (c : CE) : pb ct n d t c n = c := upC_s _ _ _
theorem bnd1_of {α β : Type} {o : Option α} {a : α} {F : α → Option β} {r : Option β} (h : o = some a) (k : F a = r) : bnd1 o F = r := by subst h; exact k
theorem pb_fs (ct : CT) (n d : Nat) (t : Nat → CE) (c : CE) : fsOf (pb ct n d t c n) = fsOf c := by rw [pb_s]
theorem pb_at {ct : CT} {n d q : Nat} {t : Nat → CE} {c : CE} (h1 : n < q) (h2 : q < n + d) : pb ct n d t c q = t (q - n) := by unfold pb; rw [upC_n (by omega), blk_in (by omega) h2]
theorem pb_start (ct : CT) (n : Nat) (t : Nat → CE) (c : CE) : upC ct n c = pb ct n 1 t c := by
  funext q
  unfold pb
  by_cases h : q = n
  · subst h; rw [upC_s, upC_s]
  · rw [upC_n h, upC_n h]
    by_cases h2 : q < n
    · rw [blk_lo h2]
    · rw [blk_hi (by omega)]
theorem pb_put (ct : CT) (n d : Nat) (t : Nat → CE) (c c' : CE) : upC (pb ct n d t c) n c' = pb ct n d t c' := upC_up _ _ _ _
theorem pb_new {ct : CT} {n d : Nat} {t : Nat → CE} {c e : CE} (hd : 1 ≤ d) (ht : t d = e) : upC (pb ct n d t c) (n + d) e = pb ct n (d + 1) t c := by
  funext q
  unfold pb
  by_cases h : q = n + d
  · subst h; rw [upC_s, upC_n (by omega), blk_in (by omega) (by omega), show n + d - n = d by omega, ht]
  · rw [upC_n h]
    by_cases h2 : q = n
    · subst h2; rw [upC_s, upC_s]
    · rw [upC_n h2, upC_n h2]
      by_cases h3 : q < n
      · rw [blk_lo h3, blk_lo h3]
      · by_cases h4 : q < n + d
        · rw [blk_in (by omega) h4, blk_in (by omega) (by omega)]
        · rw [blk_hi (by omega), blk_hi (by omega)]
theorem pb_blk {ct : CT} {n d d2 : Nat} {t t2 : Nat → CE} {c : CE} (hd : 1 ≤ d) (ht : ∀ e, e < d2 → t (d + e) = t2 e) : blk (pb ct n d t c) (n + d) d2 t2 = pb ct n (d + d2) t c := by
  funext q
  by_cases h : n + d ≤ q ∧ q < n + d + d2
  · rw [blk_in h.1 h.2, ← ht _ (by omega), pb_at (by omega) (by omega), show d + (q - (n + d)) = q - n by omega]
  · unfold pb
    by_cases h2 : q = n
    · subst h2; rw [blk_lo (by omega), upC_s, upC_s]
    · by_cases h3 : q < n
      · rw [blk_lo (by omega), upC_n h2, upC_n h2, blk_lo h3, blk_lo h3]
      · by_cases h4 : q < n + d
        · rw [blk_lo h4, upC_n h2, upC_n h2, blk_in (by omega) h4, blk_in (by omega) (by omega)]
        · rw [blk_hi (by omega), upC_n h2, upC_n h2, blk_hi (by omega), blk_hi (by omega)]
theorem pb_end {ct : CT} {n d : Nat} {t : Nat → CE} {c : CE} (hd : 1 ≤ d) (ht : t 0 = c) : pb ct n d t c = blk ct n d t := by
  funext q
  unfold pb
  by_cases h : q = n
  · subst h; rw [upC_s, blk_in (by omega) (by omega), Nat.sub_self, ht]
  · rw [upC_n h]
theorem rowC_0 (j len n0 d : Nat) : (.inr (j, len, .inr (fun _ => none)) : CE) = rowC j len n0 d 0 := by
  unfold rowC
  congr 3
theorem S_0 {ct : CT} {n0 a j len d : Nat} {t : Nat → CE} (h : ct a = rowC j len n0 d 0) : ct = upC (blk ct n0 (d * 0) t) a (rowC j len n0 d 0) := by
  funext q
  by_cases hq : q = a
  · subst hq; rw [upC_s, h]
  · rw [upC_n hq, Nat.mul_zero]
    by_cases h2 : q < n0
    · rw [blk_lo h2]
    · rw [blk_hi (by omega)]
def tHeap (n e : Nat) : CE := if e = 0 then .inl (2, [cR (n + 1), cI 0]) else if e = 1 then rowC 3 12 (n + 2) 2 12 else tLot (n + 2 + 2 * ((e - 2) / 2)) ((e - 2) % 2)
theorem q_X2 (n : Nat) (ct : CT) : f_X2_init (n + 1) (upC ct n (.inl (2, [.inr none, .inl 0]))) n = some (n + 26, blk ct n 26 (tHeap n)) := by
  unfold f_X2_init
  rw [pb_start ct n (fun _ => rowC 3 12 (n + 2) 2 0), letC_e, rowC_0 3 12 (n + 2) 2, pb_new (by omega) rfl]
  rw [if_pos ⟨by omega, by rw [pb_s]; rfl, by rw [pb_s]; decide⟩, letC_e, pb_put, pb_s]
  rw [if_pos ⟨by omega, by rw [pb_s]; rfl, by rw [pb_s]; exact Nat.le_of_ble_eq_true rfl⟩, letC_e, pb_put, pb_s]
  have h0 : pb ct n (1 + 1) (fun _ => rowC 3 12 (n + 2) 2 0) (.inl (2, [cR (n + 1), cI 0])) (n + 1) = rowC 3 12 (n + 2) 2 0 := pb_at (by omega) (by omega)
  have h1 := lp_H (n0 := n + 2) (a := n + 1) (o := n) (kc := 1) (ks := 12) (by omega) (by omega) (by omega) (pb_s ct n (1 + 1) (fun _ => rowC 3 12 (n + 2) 2 0) (.inl (2, [cR (n + 1), cI 0]))) rfl (by decide) (by decide) 12 FU 0 rfl (by decide)
  unfold SH at h1
  rw [← S_0 h0] at h1
  refine h1.trans (congrArg some (Prod.ext (by show n + 2 + 24 = n + 26; omega) ?_))
  funext q
  show upC (blk (pb ct n (1 + 1) _ _) (n + 2) (2 * 12) _) (n + 1) _ q = blk ct n 26 (tHeap n) q
  by_cases h2 : q < n
  · rw [upC_n (by omega), blk_lo (by omega), blk_lo h2]; unfold pb; rw [upC_n (by omega), blk_lo h2]
  · by_cases h3 : q = n
    · subst h3; rw [upC_n (by omega), blk_lo (by omega), pb_s, blk_in (by omega) (by omega), Nat.sub_self]; rfl
    · by_cases h4 : q = n + 1
      · subst h4; rw [upC_s, blk_in (by omega) (by omega), show n + 1 - n = 1 by omega]; rfl
      · rw [upC_n h4]
        by_cases h5 : q < n + 26
        · rw [blk_in (by omega) (by omega), blk_in (by omega) h5]
          unfold tHeap
          rw [if_neg (by omega), if_neg (by omega), show q - n - 2 = q - (n + 2) by omega]
        · rw [blk_hi (by omega), blk_hi (by omega)]; unfold pb; rw [upC_n h3, blk_hi (by omega)]

theorem pb_newm {ct : CT} {n d m : Nat} {t : Nat → CE} {c e : CE} (hm : m = n + d) (hd : 1 ≤ d) (ht : t d = e) : upC (pb ct n d t c) m e = pb ct n (d + 1) t c := by
  subst hm
  exact pb_new hd ht
theorem pb_blkm {ct : CT} {n d m d2 : Nat} {t t2 : Nat → CE} {c : CE} (hm : m = n + d) (hd : 1 ≤ d) (ht : ∀ e, e < d2 → t (d + e) = t2 e) : blk (pb ct n d t c) m d2 t2 = pb ct n (d + d2) t c := by
  subst hm
  exact pb_blk hd ht
theorem pb_atm {ct : CT} {n d m k : Nat} {t : Nat → CE} {c : CE} (hm : m = n + k) (h1 : 0 < k) (h2 : k < d) : pb ct n d t c m = t k := by
  subst hm
  rw [pb_at (by omega) (by omega), show n + k - n = k by omega]
def tWa (b o : Nat) (n e : Nat) : CE := if e = 0 then .inl (9, [cR (n + 1), cR (n + 2), cR (n + 3), cR (n + 4), cR (n + 5), cR (n + 31), cR (n + 32), cR (n + 33), cI 0, cI 0, cR (n + 34), cR (n + 35)]) else if e < 5 then cMx 0 0 else if e < 31 then tHeap (n + 5) (e - 5) else if e = 31 then .inr (0, 7, .inl sFirst) else if e = 32 then rowC 4 100 (n + 36) 2 b else if e = 33 then rowC 5 100 (n + 236) 1 o else if e < 36 then cMx 0 0 else if e < 236 then tBell (n + 36 + 2 * ((e - 36) / 2)) ((e - 36) % 2) else tOrd 0 0
def tWk (n e : Nat) : CE := tWa 100 100 n e
set_option maxRecDepth 100000 in
theorem q_X9 (n : Nat) (ct : CT) : f_X9_init (n + 1) (upC ct n (.inl (9, [.inr none, .inr none, .inr none, .inr none, .inr none, .inr none, .inr none, .inr none, .inl 0, .inl 0, .inr none, .inr none]))) n = some (n + 336, blk ct n 336 (tWk n)) := by
  unfold f_X9_init
  rw [pb_start ct n (tWa 0 0 n)]
  obtain ⟨m0, hm0⟩ : ∃ m, m = n + 1 := ⟨_, rfl⟩
  rw [← hm0]
  rw [letC_e, pb_newm (e := cMx 0 0) hm0 (by omega) rfl, p_X6 (by omega) (pb_atm hm0 (by omega) (by omega)), bnd2_s]
  rw [if_pos ⟨by omega, by rw [pb_s]; rfl, by rw [pb_s]; exact Nat.le_of_ble_eq_true rfl⟩, letC_e, pb_put, pb_fs]
  have hm1 : m0 + 1 = n + 2 := by omega
  generalize m0 + 1 = m1 at hm1 ⊢
  rw [letC_e, pb_newm (e := cMx 0 0) hm1 (by omega) rfl, p_X6 (by omega) (pb_atm hm1 (by omega) (by omega)), bnd2_s]
  rw [if_pos ⟨by omega, by rw [pb_s]; rfl, by rw [pb_s]; exact Nat.le_of_ble_eq_true rfl⟩, letC_e, pb_put, pb_fs]
  have hm2 : m1 + 1 = n + 3 := by omega
  generalize m1 + 1 = m2 at hm2 ⊢
  rw [letC_e, pb_newm (e := cMx 0 0) hm2 (by omega) rfl, p_X6 (by omega) (pb_atm hm2 (by omega) (by omega)), bnd2_s]
  rw [if_pos ⟨by omega, by rw [pb_s]; rfl, by rw [pb_s]; exact Nat.le_of_ble_eq_true rfl⟩, letC_e, pb_put, pb_fs]
  have hm3 : m2 + 1 = n + 4 := by omega
  generalize m2 + 1 = m3 at hm3 ⊢
  rw [letC_e, pb_newm (e := cMx 0 0) hm3 (by omega) rfl, p_X6 (by omega) (pb_atm hm3 (by omega) (by omega)), bnd2_s]
  rw [if_pos ⟨by omega, by rw [pb_s]; rfl, by rw [pb_s]; exact Nat.le_of_ble_eq_true rfl⟩, letC_e, pb_put, pb_fs]
  have hm4 : m3 + 1 = n + 5 := by omega
  generalize m3 + 1 = m4 at hm4 ⊢
  rw [letC_e, q_X2, bnd2_s, pb_blkm (d2 := 26) hm4 (by omega) (fun e he => by unfold tWa; rw [if_neg (by omega), if_neg (by omega), if_pos (by omega), hm4, show 5 + e - 5 = e by omega])]
  rw [if_pos ⟨by omega, by rw [pb_s]; rfl, by rw [pb_s]; exact Nat.le_of_ble_eq_true rfl⟩, letC_e, pb_put, pb_fs]
  have hm5 : m4 + 26 = n + 31 := by omega
  generalize m4 + 26 = m5 at hm5 ⊢
  rw [letC_e, pb_newm (e := .inr (0, 7, .inl sFirst)) hm5 (by omega) rfl]
  rw [if_pos ⟨by omega, by rw [pb_atm hm5 (by omega) (by omega)]; rfl⟩]
  rw [if_pos ⟨by omega, by rw [pb_s]; rfl, by rw [pb_s]; exact Nat.le_of_ble_eq_true rfl⟩, letC_e, pb_put, pb_fs]
  have hm6 : m5 + 1 = n + 32 := by omega
  generalize m5 + 1 = m6 at hm6 ⊢
  rw [letC_e, rowC_0 4 100 (n + 36) 2, pb_newm (e := rowC 4 100 (n + 36) 2 0) hm6 (by omega) rfl]
  rw [if_pos ⟨by omega, by rw [pb_s]; rfl, by rw [pb_s]; exact Nat.le_of_ble_eq_true rfl⟩, letC_e, pb_put, pb_fs]
  have hm7 : m6 + 1 = n + 33 := by omega
  generalize m6 + 1 = m7 at hm7 ⊢
  rw [letC_e, rowC_0 5 100 (n + 236) 1, pb_newm (e := rowC 5 100 (n + 236) 1 0) hm7 (by omega) rfl]
  rw [if_pos ⟨by omega, by rw [pb_s]; rfl, by rw [pb_s]; exact Nat.le_of_ble_eq_true rfl⟩, letC_e, pb_put, pb_fs]
  have hm8 : m7 + 1 = n + 34 := by omega
  generalize m7 + 1 = m8 at hm8 ⊢
  rw [if_pos ⟨by omega, by rw [pb_s]; rfl, by rw [pb_s]; exact Nat.le_of_ble_eq_true rfl⟩, letC_e, pb_put, pb_fs]
  rw [if_pos ⟨by omega, by rw [pb_s]; rfl, by rw [pb_s]; exact Nat.le_of_ble_eq_true rfl⟩, letC_e, pb_put, pb_fs]
  rw [letC_e, pb_newm (e := cMx 0 0) hm8 (by omega) rfl, p_X6 (by omega) (pb_atm hm8 (by omega) (by omega)), bnd2_s]
  rw [if_pos ⟨by omega, by rw [pb_s]; rfl, by rw [pb_s]; exact Nat.le_of_ble_eq_true rfl⟩, letC_e, pb_put, pb_fs]
  have hm9 : m8 + 1 = n + 35 := by omega
  generalize m8 + 1 = m9 at hm9 ⊢
  rw [letC_e, pb_newm (e := cMx 0 0) hm9 (by omega) rfl, p_X6 (by omega) (pb_atm hm9 (by omega) (by omega)), bnd2_s]
  rw [if_pos ⟨by omega, by rw [pb_s]; rfl, by rw [pb_s]; exact Nat.le_of_ble_eq_true rfl⟩, letC_e, pb_put, pb_fs]
  have hm10 : m9 + 1 = n + 36 := by omega
  generalize m9 + 1 = m10 at hm10 ⊢
  subst hm10
  subst hm9
  subst hm8
  subst hm7
  subst hm6
  subst hm5
  subst hm4
  subst hm3
  subst hm2
  subst hm1
  subst hm0
  have hb : pb ct n 36 (tWa 0 0 n) (tWa 0 0 n 0) (n + 32) = rowC 4 100 (n + 36) 2 0 := pb_atm (k := 32) rfl (by omega) (by omega)
  have h1 := lp_B (n0 := n + 36) (a := n + 32) (o := n) (kc := 35) (ks := 281) (by omega) (by omega) (by omega) (pb_s ct n 36 (tWa 0 0 n) (tWa 0 0 n 0)) rfl (by decide) (by decide) 100 FU 0 rfl (by decide)
  unfold SB at h1
  rw [← S_0 hb] at h1
  refine Eq.trans h1 ?_
  generalize hX : upC (blk (pb ct n 36 (tWa 0 0 n) (tWa 0 0 n 0)) (n + 36) (2 * 100) _) (n + 32) _ = X
  have x0 : X n = tWa 0 0 n 0 := by rw [← hX, upC_n (by omega), blk_lo (by omega), pb_s]
  have xo : X (n + 33) = rowC 5 100 (n + 36 + 2 * 100) 1 0 := by rw [← hX, upC_n (by omega), blk_lo (by omega)]; exact pb_atm (k := 33) rfl (by omega) (by omega)
  have h2 := lp_O (n0 := n + 36 + 2 * 100) (a := n + 33) (o := n) (kc := 35 + 2 * 100) (ks := 281 + 9 * 100) (by omega) (by omega) (by omega) x0 rfl (by decide) (by decide) 100 FU 0 rfl (by decide)
  unfold SO at h2
  rw [← S_0 xo] at h2
  refine Eq.trans h2 (congrArg some (Prod.ext (by show n + 36 + 2 * 100 + 100 = n + 336; omega) ?_))
  funext q
  show upC (blk X (n + 36 + 2 * 100) (1 * 100) _) (n + 33) _ q = blk ct n 336 (tWk n) q
  by_cases g1 : q < n
  · rw [upC_n (by omega), blk_lo (by omega), ← hX, upC_n (by omega), blk_lo (by omega), blk_lo g1]; unfold pb; rw [upC_n (by omega), blk_lo g1]
  by_cases g2 : n + 336 ≤ q
  · rw [upC_n (by omega), blk_hi (by omega), ← hX, upC_n (by omega), blk_hi (by omega), blk_hi (by omega)]; unfold pb; rw [upC_n (by omega), blk_hi (by omega)]
  rw [blk_in (by omega) (by omega)]
  by_cases g3 : q = n + 33
  · subst g3; rw [upC_s, show n + 33 - n = 33 by omega]; rfl
  rw [upC_n g3]
  by_cases g4 : n + 236 ≤ q
  · rw [blk_in (by omega) (by omega)]; unfold tWk tWa tOrd; rw [if_neg (by omega), if_neg (by omega), if_neg (by omega), if_neg (by omega), if_neg (by omega), if_neg (by omega), if_neg (by omega), if_neg (by omega)]
  rw [blk_lo (by omega), ← hX]
  by_cases g5 : q = n + 32
  · subst g5; rw [upC_s, show n + 32 - n = 32 by omega]; rfl
  rw [upC_n g5]
  by_cases g6 : n + 36 ≤ q
  · rw [blk_in (by omega) (by omega)]; unfold tWk tWa; rw [if_neg (by omega), if_neg (by omega), if_neg (by omega), if_neg (by omega), if_neg (by omega), if_neg (by omega), if_neg (by omega), if_pos (by omega), show q - n - 36 = q - (n + 36) by omega]
  rw [blk_lo (by omega)]
  by_cases g7 : q = n
  · subst g7; rw [pb_s, Nat.sub_self]; rfl
  rw [pb_at (by omega) (by omega)]
  unfold tWk tWa
  have g70 : ¬ (q - n = 0) := by omega
  rw [if_neg g70, if_neg g70]
  by_cases g8 : q - n < 5
  · rw [if_pos g8, if_pos g8]
  rw [if_neg g8, if_neg g8]
  by_cases g9 : q - n < 31
  · rw [if_pos g9, if_pos g9]
  rw [if_neg g9, if_neg g9]
  by_cases g10 : q - n = 31
  · rw [if_pos g10, if_pos g10]
  have g11 : ¬ (q - n = 32) := by omega
  have g12 : ¬ (q - n = 33) := by omega
  have g13 : q - n < 36 := by omega
  rw [if_neg g10, if_neg g10, if_neg g11, if_neg g11, if_neg g12, if_neg g12, if_pos g13]
def SV (n0 a : Nat) (ct : CT) (i : Nat) : CT := upC (blk ct n0 (336 * i) (fun e => tWk (n0 + 336 * (e / 336)) (e % 336))) a (rowC 6 4 n0 336 i)
set_option maxRecDepth 100000 in
theorem SV_up {n0 a : Nat} {ct : CT} {i : Nat} (ha : a < n0) : upC (blk (SV n0 a ct i) (n0 + 336 * i) 336 (tWk (n0 + 336 * i))) a (rowC 6 4 n0 336 (i + 1)) = SV n0 a ct (i + 1) := by
  funext q
  by_cases hq : q = a
  · subst hq; unfold SV; rw [upC_s, upC_s]
  · rw [upC_n hq]
    unfold SV
    rw [upC_n hq]
    by_cases h1 : q < n0
    · rw [blk_lo (by omega), upC_n hq, blk_lo h1, blk_lo h1]
    · by_cases h2 : q < n0 + 336 * i
      · rw [blk_lo h2, upC_n hq, blk_in (by omega) h2, blk_in (by omega) (by omega)]
      · by_cases h3 : q < n0 + 336 * i + 336
        · rw [blk_in (by omega) h3, blk_in (by omega) (by omega), show (q - n0) / 336 = i by omega, show (q - n0) % 336 = q - (n0 + 336 * i) by omega]
        · rw [blk_hi (by omega), upC_n hq, blk_hi (by omega), blk_hi (by omega)]
set_option maxRecDepth 100000 in
theorem lp_V {n0 a o kc ks : Nat} {ct : CT} (ho : o < n0) (ha : a < n0) (hoa : o ≠ a) {fs : List CV} (hc : ct o = .inl (3, fs)) (hgr : getR (.inl (3, fs)) 0 = some a) (hk1 : kc + 1344 ≤ 1345) (hk2 : ks + 6372 ≤ 6376) : ∀ (j fu i : Nat), i + j = 4 → j < fu → lp_X3_init_19 fu (n0 + 336 * i) (SV n0 a ct i) (kc + 336 * i) (ks + 1593 * i) o (nI i) = some (n0 + 1344, SV n0 a ct 4) := by
  intro j
  induction j with
  | zero =>
    intro fu i hi hf
    obtain ⟨f, rfl⟩ : ∃ f, fu = f + 1 := ⟨fu - 1, by omega⟩
    obtain rfl : i = 4 := by omega
    unfold lp_X3_init_19
    have e1 : SV n0 a ct 4 o = .inl (3, fs) := by unfold SV; rw [upC_n hoa, blk_lo ho]; exact hc
    have e2 : SV n0 a ct 4 a = rowC 6 4 n0 336 4 := upC_s _ _ _
    rw [if_pos ⟨by omega, by rw [e1]; rfl⟩, show getR (SV n0 a ct 4 o) 0 = some a by rw [e1]; exact hgr, bnd1_s, if_pos ⟨by omega, by rw [e2]; rfl⟩, show lenOf (SV n0 a ct 4 a) = 4 by rw [e2]; rfl, if_pos (by decide)]
    rw [if_pos ⟨by omega, by omega⟩]
  | succ j ih =>
    intro fu i hi hf
    obtain ⟨f, rfl⟩ : ∃ f, fu = f + 1 := ⟨fu - 1, by omega⟩
    unfold lp_X3_init_19
    have e1 : SV n0 a ct i o = .inl (3, fs) := by unfold SV; rw [upC_n hoa, blk_lo ho]; exact hc
    have e2 : SV n0 a ct i a = rowC 6 4 n0 336 i := upC_s _ _ _
    have e3 : blk (SV n0 a ct i) (n0 + 336 * i) 336 (tWk (n0 + 336 * i)) a = rowC 6 4 n0 336 i := by rw [blk_lo (by omega), e2]
    have e4 : isO (blk (SV n0 a ct i) (n0 + 336 * i) 336 (tWk (n0 + 336 * i)) (n0 + 336 * i)) 9 = true := by rw [blk_in (Nat.le_refl _) (by omega), Nat.sub_self]; rfl
    have e5 : ¬ Int32.ofNat 4 ≤ nI i := nI_ge (b := 4) (by omega) (by decide)
    rw [if_pos ⟨by omega, by rw [e1]; rfl⟩, show getR (SV n0 a ct i o) 0 = some a by rw [e1]; exact hgr, bnd1_s, if_pos ⟨by omega, by rw [e2]; rfl⟩, show lenOf (SV n0 a ct i a) = 4 by rw [e2]; rfl, if_neg e5]
    rw [if_pos ⟨by omega, by rw [e1]; rfl⟩, bnd1_s, if_pos ⟨by omega, by omega⟩, letC_e, if_pos ⟨by omega, by omega⟩, q_X9, bnd2_s]
    rw [if_pos ⟨by omega, by rw [e3]; rfl, by omega, e4, by rw [e3]; exact nI_in (by show i < 4; omega) (by show 4 < 2 ^ 31; decide)⟩, letC_e, nI_1, e3, nI_clamp (by omega)]
    rw [show (.inr (6, lenOf (rowC 6 4 n0 336 i), .inr (va_up (rfOf (rowC 6 4 n0 336 i)) i (some (n0 + 336 * i)))) : CE) = rowC 6 4 n0 336 (i + 1) from congrArg (fun z => (.inr (6, 4, .inr z) : CE)) (rowC_up n0 336 i), SV_up ha]
    have h9 := ih f (i + 1) (by omega) (by omega)
    rw [show n0 + 336 * (i + 1) = n0 + 336 * i + 336 by omega, show kc + 336 * (i + 1) = kc + 336 * i + 1 + 335 by omega, show ks + 1593 * (i + 1) = ks + 1593 * i + 12 + 1581 by omega] at h9
    exact h9
def tHist (n e : Nat) : CE := if e = 0 then .inl (3, [cR (n + 1), cI 0]) else if e = 1 then rowC 6 4 (n + 2) 336 4 else tWk (n + 2 + 336 * ((e - 2) / 336)) ((e - 2) % 336)
theorem q_X3 (n : Nat) (ct : CT) : f_X3_init (n + 1) (upC ct n (.inl (3, [.inr none, .inl 0]))) n = some (n + 1346, blk ct n 1346 (tHist n)) := by
  unfold f_X3_init
  rw [pb_start ct n (fun _ => rowC 6 4 (n + 2) 336 0), letC_e, rowC_0 6 4 (n + 2) 336, pb_new (by omega) rfl]
  rw [if_pos ⟨by omega, by rw [pb_s]; rfl, by rw [pb_s]; decide⟩, letC_e, pb_put, pb_s]
  rw [if_pos ⟨by omega, by rw [pb_s]; rfl, by rw [pb_s]; exact Nat.le_of_ble_eq_true rfl⟩, letC_e, pb_put, pb_s]
  have h0 : pb ct n (1 + 1) (fun _ => rowC 6 4 (n + 2) 336 0) (.inl (3, [cR (n + 1), cI 0])) (n + 1) = rowC 6 4 (n + 2) 336 0 := pb_at (by omega) (by omega)
  have h1 := lp_V (n0 := n + 2) (a := n + 1) (o := n) (kc := 1) (ks := 4) (by omega) (by omega) (by omega) (pb_s ct n (1 + 1) (fun _ => rowC 6 4 (n + 2) 336 0) (.inl (3, [cR (n + 1), cI 0]))) rfl (by decide) (by decide) 4 FU 0 rfl (by decide)
  unfold SV at h1
  rw [← S_0 h0] at h1
  refine h1.trans (congrArg some (Prod.ext (by show n + 2 + 1344 = n + 1346; omega) ?_))
  funext q
  show upC (blk (pb ct n (1 + 1) _ _) (n + 2) (336 * 4) _) (n + 1) _ q = blk ct n 1346 (tHist n) q
  by_cases h2 : q < n
  · rw [upC_n (by omega), blk_lo (by omega), blk_lo h2]; unfold pb; rw [upC_n (by omega), blk_lo h2]
  · by_cases h3 : q = n
    · subst h3; rw [upC_n (by omega), blk_lo (by omega), pb_s, blk_in (by omega) (by omega), Nat.sub_self]; rfl
    · by_cases h4 : q = n + 1
      · subst h4; rw [upC_s, blk_in (by omega) (by omega), show n + 1 - n = 1 by omega]; rfl
      · rw [upC_n h4]
        by_cases h5 : q < n + 1346
        · rw [blk_in (by omega) (by omega), blk_in (by omega) h5]
          unfold tHist
          rw [if_neg (by omega), if_neg (by omega), show q - n - 2 = q - (n + 2) by omega]
        · rw [blk_hi (by omega), blk_hi (by omega)]; unfold pb; rw [upC_n h3, blk_hi (by omega)]
def tPack (n e : Nat) : CE := if e = 0 then .inl (8, [cR (n + 1), cR (n + 2), cI 0]) else if e = 1 then .inr (0, 12, .inl (fun _ => 0)) else .inr (0, 4096, .inl (fun _ => 0))
def tRd (b n e : Nat) : CE := if e = 0 then .inl (1, [cI 0, cI 0, cI 0, cR (n + 1), cR (n + 2), cR (n + 3), cI 0, cR (n + 4), cI 0, cI 0, cI 0, cI 0]) else if e = 1 then tLoad 0 0 else if e = 2 then rowC 7 5 (n + 5) 1 b else if e = 3 then .inr (2, 5, .inl (fun _ => 0)) else if e = 4 then .inr (0, 100, .inl (fun _ => 0)) else tLoad 0 0
def tBF (n e : Nat) : CE := if e = 0 then .inl (10, [cR (n + 1), cR (n + 337), cR (n + 1683), cR (n + 1686), cR (n + 1696), cI 0]) else if e < 337 then tWk (n + 1) (e - 1) else if e < 1683 then tHist (n + 337) (e - 337) else if e < 1686 then tPack (n + 1683) (e - 1683) else if e < 1696 then tRd 5 (n + 1686) (e - 1686) else .inr (1, 60, .inl (fun _ => 0))
theorem q_X8 (n : Nat) (ct : CT) : f_X8_init (n + 1) (upC ct n (.inl (8, [.inr none, .inr none, .inl 0]))) n = some (n + 3, blk ct n 3 (tPack n)) := by
  unfold f_X8_init
  rw [pb_start ct n (tPack n)]
  obtain ⟨m0, hm0⟩ : ∃ m, m = n + 1 := ⟨_, rfl⟩
  rw [← hm0]
  rw [letC_e, pb_newm (e := .inr (0, 12, .inl (fun _ => 0))) hm0 (by omega) rfl]
  rw [if_pos ⟨by omega, by rw [pb_s]; rfl, by rw [pb_s]; exact Nat.le_of_ble_eq_true rfl⟩, letC_e, pb_put, pb_fs]
  have hm1 : m0 + 1 = n + 2 := by omega
  generalize m0 + 1 = m1 at hm1 ⊢
  rw [letC_e, pb_newm (e := .inr (0, 4096, .inl (fun _ => 0))) hm1 (by omega) rfl]
  rw [if_pos ⟨by omega, by rw [pb_s]; rfl, by rw [pb_s]; exact Nat.le_of_ble_eq_true rfl⟩, letC_e, pb_put, pb_fs]
  have hm2 : m1 + 1 = n + 3 := by omega
  generalize m1 + 1 = m2 at hm2 ⊢
  rw [if_pos ⟨by omega, by rw [pb_s]; rfl, by rw [pb_s]; exact Nat.le_of_ble_eq_true rfl⟩, letC_e, pb_put, pb_fs]
  subst hm2
  subst hm1
  subst hm0
  exact congrArg some (Prod.ext rfl (pb_end (by omega) rfl))
theorem q_X1 (n : Nat) (ct : CT) : f_X1_init (n + 1) (upC ct n (.inl (1, [.inl 0, .inl 0, .inl 0, .inr none, .inr none, .inr none, .inl 0, .inr none, .inl 0, .inl 0, .inl 0, .inl 0]))) n = some (n + 10, blk ct n 10 (tRd 5 n)) := by
  unfold f_X1_init
  rw [pb_start ct n (tRd 0 n)]
  obtain ⟨m0, hm0⟩ : ∃ m, m = n + 1 := ⟨_, rfl⟩
  rw [← hm0]
  rw [if_pos ⟨by omega, by rw [pb_s]; rfl, by rw [pb_s]; exact Nat.le_of_ble_eq_true rfl⟩, letC_e, pb_put, pb_fs]
  rw [if_pos ⟨by omega, by rw [pb_s]; rfl, by rw [pb_s]; exact Nat.le_of_ble_eq_true rfl⟩, letC_e, pb_put, pb_fs]
  rw [if_pos ⟨by omega, by rw [pb_s]; rfl, by rw [pb_s]; exact Nat.le_of_ble_eq_true rfl⟩, letC_e, pb_put, pb_fs]
  rw [letC_e, q_X4, bnd2_s, pb_blkm (d2 := 1) hm0 (by omega) (fun e he => by have h9 : e = 0 := Nat.lt_one_iff.mp he; subst h9; rfl)]
  rw [if_pos ⟨by omega, by rw [pb_s]; rfl, by rw [pb_s]; exact Nat.le_of_ble_eq_true rfl⟩, letC_e, pb_put, pb_fs]
  have hm1 : m0 + 1 = n + 2 := by omega
  generalize m0 + 1 = m1 at hm1 ⊢
  rw [letC_e, rowC_0 7 5 (n + 5) 1, pb_newm (e := rowC 7 5 (n + 5) 1 0) hm1 (by omega) rfl]
  rw [if_pos ⟨by omega, by rw [pb_s]; rfl, by rw [pb_s]; exact Nat.le_of_ble_eq_true rfl⟩, letC_e, pb_put, pb_fs]
  have hm2 : m1 + 1 = n + 3 := by omega
  generalize m1 + 1 = m2 at hm2 ⊢
  rw [letC_e, pb_newm (e := .inr (2, 5, .inl (fun _ => 0))) hm2 (by omega) rfl]
  rw [if_pos ⟨by omega, by rw [pb_s]; rfl, by rw [pb_s]; exact Nat.le_of_ble_eq_true rfl⟩, letC_e, pb_put, pb_fs]
  have hm3 : m2 + 1 = n + 4 := by omega
  generalize m2 + 1 = m3 at hm3 ⊢
  rw [if_pos ⟨by omega, by rw [pb_s]; rfl, by rw [pb_s]; exact Nat.le_of_ble_eq_true rfl⟩, letC_e, pb_put, pb_fs]
  rw [letC_e, pb_newm (e := .inr (0, 100, .inl (fun _ => 0))) hm3 (by omega) rfl]
  rw [if_pos ⟨by omega, by rw [pb_s]; rfl, by rw [pb_s]; exact Nat.le_of_ble_eq_true rfl⟩, letC_e, pb_put, pb_fs]
  have hm4 : m3 + 1 = n + 5 := by omega
  generalize m3 + 1 = m4 at hm4 ⊢
  rw [if_pos ⟨by omega, by rw [pb_s]; rfl, by rw [pb_s]; exact Nat.le_of_ble_eq_true rfl⟩, letC_e, pb_put, pb_fs]
  rw [if_pos ⟨by omega, by rw [pb_s]; rfl, by rw [pb_s]; exact Nat.le_of_ble_eq_true rfl⟩, letC_e, pb_put, pb_fs]
  rw [if_pos ⟨by omega, by rw [pb_s]; rfl, by rw [pb_s]; exact Nat.le_of_ble_eq_true rfl⟩, letC_e, pb_put, pb_fs]
  rw [if_pos ⟨by omega, by rw [pb_s]; rfl, by rw [pb_s]; exact Nat.le_of_ble_eq_true rfl⟩, letC_e, pb_put, pb_fs]
  subst hm4
  subst hm3
  subst hm2
  subst hm1
  subst hm0
  have hb : pb ct n 5 (tRd 0 n) (tRd 0 n 0) (n + 2) = rowC 7 5 (n + 5) 1 0 := pb_atm (k := 2) rfl (by omega) (by omega)
  have h1 := lp_L (n0 := n + 5) (a := n + 2) (o := n) (kc := 4) (ks := 113) (by omega) (by omega) (by omega) (pb_s ct n 5 (tRd 0 n) (tRd 0 n 0)) rfl (by decide) (by decide) 5 FU 0 rfl (by decide)
  unfold SL at h1
  rw [← S_0 hb] at h1
  refine Eq.trans h1 (congrArg some (Prod.ext (by show n + 5 + 5 = n + 10; omega) ?_))
  funext q
  show upC (blk (pb ct n 5 _ _) (n + 5) (1 * 5) _) (n + 2) _ q = blk ct n 10 (tRd 5 n) q
  by_cases g1 : q < n
  · rw [upC_n (by omega), blk_lo (by omega), blk_lo g1]; unfold pb; rw [upC_n (by omega), blk_lo g1]
  by_cases g2 : n + 10 ≤ q
  · rw [upC_n (by omega), blk_hi (by omega), blk_hi (by omega)]; unfold pb; rw [upC_n (by omega), blk_hi (by omega)]
  rw [blk_in (by omega) (by omega)]
  by_cases g3 : q = n + 2
  · subst g3; rw [upC_s, show n + 2 - n = 2 by omega]; rfl
  rw [upC_n g3]
  by_cases g4 : n + 5 ≤ q
  · rw [blk_in (by omega) (by omega)]; unfold tRd; rw [if_neg (by omega), if_neg (by omega), if_neg (by omega), if_neg (by omega), if_neg (by omega)]; rfl
  rw [blk_lo (by omega)]
  by_cases g7 : q = n
  · subst g7; rw [pb_s, Nat.sub_self]; rfl
  rw [pb_at (by omega) (by omega)]
  have g8 : q - n = 1 ∨ q - n = 3 ∨ q - n = 4 := by omega
  rcases g8 with g8 | g8 | g8 <;> rw [g8] <;> rfl
set_option maxRecDepth 100000 in
theorem q_X10 (n : Nat) (ct : CT) : f_X10_init (n + 1) (upC ct n blankBF) n = some (n + 1697, blk ct n 1697 (tBF n)) := by
  unfold f_X10_init
  rw [pb_start ct n (tBF n)]
  obtain ⟨m0, hm0⟩ : ∃ m, m = n + 1 := ⟨_, rfl⟩
  rw [← hm0]
  rw [letC_e, q_X9, bnd2_s, pb_blkm (d2 := 336) hm0 (by omega) (fun e he => by unfold tBF; rw [if_neg (by omega), if_pos (by omega), hm0, show 1 + e - 1 = e by omega])]
  rw [if_pos ⟨by omega, by rw [pb_s]; rfl, by rw [pb_s]; exact Nat.le_of_ble_eq_true rfl⟩, letC_e, pb_put, pb_fs]
  have hm1 : m0 + 336 = n + 337 := by omega
  generalize m0 + 336 = m1 at hm1 ⊢
  rw [letC_e, q_X3, bnd2_s, pb_blkm (d2 := 1346) hm1 (by omega) (fun e he => by unfold tBF; rw [if_neg (by omega), if_neg (by omega), if_pos (by omega), hm1, show 337 + e - 337 = e by omega])]
  rw [if_pos ⟨by omega, by rw [pb_s]; rfl, by rw [pb_s]; exact Nat.le_of_ble_eq_true rfl⟩, letC_e, pb_put, pb_fs]
  have hm2 : m1 + 1346 = n + 1683 := by omega
  generalize m1 + 1346 = m2 at hm2 ⊢
  rw [letC_e, q_X8, bnd2_s, pb_blkm (d2 := 3) hm2 (by omega) (fun e he => by unfold tBF; rw [if_neg (by omega), if_neg (by omega), if_neg (by omega), if_pos (by omega), hm2, show 1683 + e - 1683 = e by omega])]
  rw [if_pos ⟨by omega, by rw [pb_s]; rfl, by rw [pb_s]; exact Nat.le_of_ble_eq_true rfl⟩, letC_e, pb_put, pb_fs]
  have hm3 : m2 + 3 = n + 1686 := by omega
  generalize m2 + 3 = m3 at hm3 ⊢
  rw [letC_e, q_X1, bnd2_s, pb_blkm (d2 := 10) hm3 (by omega) (fun e he => by unfold tBF; rw [if_neg (by omega), if_neg (by omega), if_neg (by omega), if_neg (by omega), if_pos (by omega), hm3, show 1686 + e - 1686 = e by omega])]
  rw [if_pos ⟨by omega, by rw [pb_s]; rfl, by rw [pb_s]; exact Nat.le_of_ble_eq_true rfl⟩, letC_e, pb_put, pb_fs]
  have hm4 : m3 + 10 = n + 1696 := by omega
  generalize m3 + 10 = m4 at hm4 ⊢
  rw [letC_e, pb_newm (e := .inr (1, 60, .inl (fun _ => 0))) hm4 (by omega) rfl]
  rw [if_pos ⟨by omega, by rw [pb_s]; rfl, by rw [pb_s]; exact Nat.le_of_ble_eq_true rfl⟩, letC_e, pb_put, pb_fs]
  have hm5 : m4 + 1 = n + 1697 := by omega
  generalize m4 + 1 = m5 at hm5 ⊢
  rw [if_pos ⟨by omega, by rw [pb_s]; rfl, by rw [pb_s]; exact Nat.le_of_ble_eq_true rfl⟩, letC_e, pb_put, pb_fs]
  subst hm5
  subst hm4
  subst hm3
  subst hm2
  subst hm1
  subst hm0
  exact congrArg some (Prod.ext rfl (pb_end (by omega) rfl))
