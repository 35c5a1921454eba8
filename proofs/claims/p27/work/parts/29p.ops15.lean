section
/-! Roots and pitches. -/
def isRt (X r : Int) : Prop := 0 ≤ r ∧ r * r * r ≤ X ∧ X < (r + 1) * (r + 1) * (r + 1)
theorem cub {x y : Int} (hx : 0 ≤ x) (h : x ≤ y) : x * x * x ≤ y * y * y :=
  Int.mul_le_mul (Int.mul_le_mul h h hx (by omega)) h hx (Int.mul_nonneg (by omega) (by omega))
theorem rt_ex {X : Int} (h0 : 0 ≤ X) : ∀ n : Nat, X < ((n : Int) + 1) * ((n : Int) + 1) * ((n : Int) + 1) → ∃ r, isRt X r ∧ r ≤ n := by
  intro n
  induction n with
  | zero => intro h; exact ⟨0, ⟨by omega, by omega, by simpa using h⟩, by omega⟩
  | succ n ih =>
    intro h
    by_cases c : X < ((n : Int) + 1) * ((n : Int) + 1) * ((n : Int) + 1)
    · obtain ⟨r, h1, h2⟩ := ih c
      exact ⟨r, h1, by omega⟩
    · refine ⟨(n : Int) + 1, ⟨by omega, by omega, ?_⟩, by omega⟩
      have e : ((n + 1 : Nat) : Int) + 1 = (n : Int) + 1 + 1 := by omega
      rw [e] at h
      exact h
theorem rt_lt {X r u : Int} (h : isRt X r) (hu : 0 ≤ u) : X < u * u * u ↔ r < u := by
  obtain ⟨h1, h2, h3⟩ := h
  constructor
  · intro q
    by_cases c : r < u
    · exact c
    · have := cub hu (show u ≤ r by omega)
      omega
  · intro q
    have := cub (show 0 ≤ r + 1 by omega) (show r + 1 ≤ u by omega)
    omega
theorem rt_un {X r s : Int} (h : isRt X r) (h2 : isRt X s) : r = s := by
  have h3 := (rt_lt h (show 0 ≤ s + 1 by have := h2.1; omega)).mp h2.2.2
  have h4 := (rt_lt h2 (show 0 ≤ r + 1 by have := h.1; omega)).mp h.2.2
  omega
theorem rt_of {w : Int} (hw : 0 ≤ w) (hw2 : w ≤ 20000) : ∃ r, isRt (1000000 * w) r ∧ r ≤ 2999 := by
  obtain ⟨r, h1, h2⟩ := rt_ex (X := 1000000 * w) (by omega) 2999 (by
    have : ((2999 : Nat) : Int) + 1 = 3000 := rfl
    rw [this]; omega)
  exact ⟨r, h1, by omega⟩
theorem rt_100 {w r : Int} (hw : 1 ≤ w) (h : isRt (1000000 * w) r) : 100 ≤ r := by
  have h1 := (rt_lt h (show (0 : Int) ≤ 100 by omega))
  by_cases c : r < 100
  · have := h1.mpr c
    omega
  · omega
theorem lgc {x y : Int} (hx : B63 x) (hy : B63 y) : 0 < lg_cmp (lI x) (lI y) ↔ y < x := by
  unfold lg_cmp
  by_cases h : y < x
  · rw [if_pos (show lI x > lI y from (lI_lt hy hx).mpr h)]
    exact ⟨fun _ => h, fun _ => by decide⟩
  · rw [if_neg (show ¬ lI x > lI y from fun q => h ((lI_lt hy hx).mp q))]
    refine ⟨fun q => ?_, fun q => absurd q h⟩
    by_cases e : lI x = lI y
    · rw [if_pos e] at q; exact absurd q (by decide)
    · rw [if_neg e] at q; exact absurd q (by decide)
theorem lgc0 {x y : Int} (hx : B63 x) (hy : B63 y) : lg_cmp (lI x) (lI y) ≤ 0 ↔ x ≤ y := by
  have h := lgc hx hy
  rw [← Int32.not_lt, h]; omega
theorem cubB {u : Int} (h : 0 ≤ u) (h2 : u ≤ 2000000) : 0 ≤ u * u * u ∧ u * u * u ≤ 8000000000000000000 := by
  have h1 := cub h h2
  have h3 := Int.mul_nonneg (Int.mul_nonneg h h) h
  exact ⟨h3, by omega⟩
theorem e_cube {M : MM} {u : Int} (h : 0 ≤ u) (h2 : u ≤ 2000000) : f_X10_cube M (Int32.toInt64 (iI u)) = some (lI (u * u * u), M) := by
  unfold f_X10_cube
  rw [iI_l (by omega), lI_mul, lI_mul]
theorem mil {w : Int} (h : 0 ≤ w) (h2 : w ≤ 20000) : (1000000 : Int64) * Int32.toInt64 (iI w) = lI (1000000 * w) := by
  rw [iI_l (by omega), ZL1000000, lI_mul]
theorem p2pos : ∀ i : Nat, (1 : Int) ≤ 2 ^ i := by
  intro i
  induction i with
  | zero => decide
  | succ i ih => rw [Int.pow_succ]; omega
theorem half {i : Nat} (h : (2 : Int) ^ (i + 1) ≤ 100000) : iI ((2 : Int) ^ (i + 1)) / 2 = iI ((2 : Int) ^ i) := by
  have h0 : (0 : Int) ≤ 2 ^ (i + 1) := Int.pow_nonneg (by omega)
  rw [Z2, iI_div h0 (by omega) (by omega) (by omega), Int.pow_succ, Int.mul_ediv_cancel _ (by omega)]
theorem l_rootOf {M : MM} {w r : Int} (hw : 0 ≤ w) (hw2 : w ≤ 20000) (h : isRt (1000000 * w) r) : ∀ (i fu : Nat) (u : Int), 0 ≤ u → u ≤ r → r < u + 2 * 2 ^ i → u + 2 * 2 ^ i ≤ 5000 → i + 1 < fu → lp_X10_rootOf_6 fu M (iI w) (iI u) (iI (2 ^ i)) = some (iI r, M) := by
  have last : ∀ fu : Nat, 0 < fu → lp_X10_rootOf_6 fu M (iI w) (iI r) (iI 0) = some (iI r, M) := by
    intro fu hf
    obtain ⟨f, rfl⟩ : ∃ f, fu = f + 1 := ⟨fu - 1, by omega⟩
    unfold lp_X10_rootOf_6
    rw [if_pos (by decide)]
  have step : ∀ (fu : Nat) (u z : Int), 0 ≤ u → 1 ≤ z → u + z ≤ 5000 → lp_X10_rootOf_6 (fu + 1) M (iI w) (iI u) (iI z) = if r < u + z then lp_X10_rootOf_6 fu M (iI w) (iI u) (iI z / 2) else lp_X10_rootOf_6 fu M (iI w) (iI (u + z)) (iI z / 2) := by
    intro fu u z hu hz hb
    have hc := cubB (u := u + z) (by omega) (by omega)
    rw [lp_X10_rootOf_6]
    rw [if_neg (by rw [Z1, iI_lt (by omega) (by omega)]; omega), iI_add, e_cube (by omega) (by omega), bnd2_s, mil hw hw2]
    by_cases c : r < u + z
    · rw [if_pos ((lgc (by omega) (by omega)).mpr ((rt_lt h (by omega)).mpr c)), if_pos c]
    · rw [if_neg (fun q => c ((rt_lt h (by omega)).mp ((lgc (by omega) (by omega)).mp q))), if_neg c]
  intro i
  induction i with
  | zero =>
    intro fu u h0 h1 h2 h3 hf
    obtain ⟨f, rfl⟩ : ∃ f, fu = f + 1 := ⟨fu - 1, by omega⟩
    rw [show (2 : Int) ^ 0 = 1 from rfl] at h2 h3 ⊢
    rw [step f u 1 h0 (by omega) (by omega), show iI 1 / 2 = iI 0 from by decide]
    by_cases c : r < u + 1
    · rw [if_pos c, show u = r by omega]; exact last f (by omega)
    · rw [if_neg c, show u + 1 = r by omega]; exact last f (by omega)
  | succ i ih =>
    intro fu u h0 h1 h2 h3 hf
    obtain ⟨f, rfl⟩ : ∃ f, fu = f + 1 := ⟨fu - 1, by omega⟩
    have hp : (1 : Int) ≤ 2 ^ i := p2pos i
    have e : (2 : Int) ^ (i + 1) = 2 * 2 ^ i := by rw [Int.pow_succ, Int.mul_comm]
    rw [step f u (2 ^ (i + 1)) h0 (by omega) (by omega), half (by omega)]
    by_cases c : r < u + 2 ^ (i + 1)
    · rw [if_pos c]; exact ih f u h0 h1 (by omega) (by omega) (by omega)
    · rw [if_neg c]; exact ih f _ (by omega) (by omega) (by omega) (by omega) (by omega)
theorem c_rootOf {M : MM} {w r : Int} (hw : 1 ≤ w) (hw2 : w ≤ 20000) (h : isRt (1000000 * w) r) : f_X10_rootOf M (iI w) = some (iI r, M) := by
  have h1 := rt_100 hw h
  obtain ⟨s, h2, h3⟩ := rt_of (w := w) (by omega) hw2
  have h4 := rt_un h h2
  exact l_rootOf (by omega) hw2 h 11 FU 1 (by omega) (by omega) (by rw [show (2 : Int) ^ 11 = 2048 from rfl]; omega) (by rw [show (2 : Int) ^ 11 = 2048 from rfl]; omega) (by unfold FU; omega)
def fac (p : Int) : Int := if p = 0 then 900 else if p = 1 then 1200 else if p = 2 then 1500 else 1100
def pit (p r al : Int) : Int := fac p * 1000 / r + al / 4
theorem fac_b (p : Int) : 900 ≤ fac p ∧ fac p ≤ 1500 := by unfold fac; split <;> (try split) <;> (try split) <;> omega
theorem pit_b {p r al : Int} (hr : 1 ≤ r) (ha : 0 ≤ al) (ha2 : al ≤ 1000) : 0 ≤ pit p r al ∧ pit p r al ≤ 1500250 := by
  have h := fac_b p
  have h1 : 0 ≤ fac p * 1000 / r := Int.ediv_nonneg (by omega) (by omega)
  have h2 : fac p * 1000 / r ≤ fac p * 1000 := Int.ediv_le_self _ (by omega)
  unfold pit
  omega
theorem sFac_e {p : Int} (h : 0 ≤ p ∧ p ≤ 3) : sFac (iI p).toNatClampNeg = iI (fac p) := by
  have h3 : p = 0 ∨ p = 1 ∨ p = 2 ∨ p = 3 := by omega
  rcases h3 with rfl | rfl | rfl | rfl <;> rfl
theorem c_firstPitch {M : MM} {p al r : Int} (hp : 0 ≤ p ∧ p ≤ 3) (hr : 1 ≤ r) (hr2 : r ≤ 100000) (ha : 0 ≤ al) (ha2 : al ≤ 1000) : f_X10_firstPitch M (iI p) (iI r) (iI al) = some (iI (pit p r al), M) := by
  have hf := fac_b p
  have hm : jmax 1 (iI r) = iI r := by rw [Z1, e_jmax (by omega) (by omega)]; congr 1; split <;> omega
  unfold f_X10_firstPitch
  rw [if_pos ((iI_vin (by omega) (by omega)).mpr (by omega)), hm, if_neg (by rw [Z0, iI_inj (by omega) (by omega)]; omega), sFac_e hp, Z1000, Z4, iI_mul, iI_div (by omega) (by omega) (by omega) (by omega), iI_div (by omega) (by omega) (by omega) (by omega), iI_add]; rfl
end
