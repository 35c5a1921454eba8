section
/-! The call pourFor. -/
def rtS (X : Int) : Nat → Int
  | 0 => 0
  | n + 1 => if ((n : Int) + 1) * ((n : Int) + 1) * ((n : Int) + 1) ≤ X then (n : Int) + 1 else rtS X n
theorem rtS_is {X : Int} (h0 : 0 ≤ X) : ∀ n : Nat, X < ((n : Int) + 1) * ((n : Int) + 1) * ((n : Int) + 1) → isRt X (rtS X n) := by
  intro n
  induction n with
  | zero => intro h; exact ⟨Int.le_refl _, by simpa [rtS] using h0, by simpa [rtS] using h⟩
  | succ n ih =>
    intro h
    unfold rtS
    by_cases c : ((n : Int) + 1) * ((n : Int) + 1) * ((n : Int) + 1) ≤ X
    · rw [if_pos c]
      have e : ((n + 1 : Nat) : Int) + 1 = (n : Int) + 1 + 1 := by omega
      rw [e] at h
      exact ⟨by omega, c, h⟩
    · rw [if_neg c]; exact ih (by omega)
def rtI (w : Int) : Int := rtS (1000000 * w) 2999
theorem rtI_is {w : Int} (hw : 0 ≤ w) (hw2 : w ≤ 20000) : isRt (1000000 * w) (rtI w) :=
  rtS_is (by omega) 2999 (by
    have : ((2999 : Nat) : Int) + 1 = 3000 := rfl
    rw [this]; omega)
theorem rtI_b {w : Int} (hw : 1 ≤ w) (hw2 : w ≤ 20000) : 100 ≤ rtI w ∧ rtI w ≤ 2999 := by
  have h := rtI_is (w := w) (by omega) hw2
  refine ⟨rt_100 hw h, ?_⟩
  obtain ⟨r, h1, h2⟩ := rt_of (w := w) (by omega) hw2
  rw [rt_un h h1]; exact h2
theorem rtI_mono {v w : Int} (hv : 0 ≤ v) (h : v ≤ w) (hw2 : w ≤ 20000) : rtI v ≤ rtI w := by
  have h1 := rtI_is (w := v) hv (by omega)
  have h2 := rtI_is (w := w) (by omega) hw2
  by_cases c : rtI v ≤ rtI w
  · exact c
  · have h3 := (rt_lt h2 h1.1).mpr (by omega)
    have h4 := h1.2.1
    omega
abbrev gdP (c0 t0 sp pf pt : Int) (n : Int) : Prop := n + sh n sp ≤ c0 + t0 ∧ pt ≤ pit pf (rtI n) (alo (cin n c0 t0) (n - cin n c0 t0))
def pF (c0 t0 sp pf pt : Int) : Nat → Int
  | 0 => -4
  | n + 1 => if gdP c0 t0 sp pf pt ((n + 1 : Nat) : Int) then ((n + 1 : Nat) : Int) else pF c0 t0 sp pf pt n
theorem pF_eq {c0 t0 sp pf pt : Int} {m : Nat} : ∀ j : Nat, (∀ n : Nat, m < n → n ≤ m + j → ¬ gdP c0 t0 sp pf pt n) → pF c0 t0 sp pf pt (m + j) = pF c0 t0 sp pf pt m := by
  intro j
  induction j with
  | zero => intro _; rfl
  | succ j ih =>
    intro h
    show pF c0 t0 sp pf pt ((m + j) + 1) = _
    unfold pF
    rw [if_neg (h (m + j + 1) (by omega) (by omega))]
    rw [ih (fun n h1 h2 => h n h1 (by omega))]
    cases m <;> rfl
def hv (pf pt : Int) : Int := if 1 ≤ pt - 250 then (if ((fac pf * 1000 / (pt - 250) + 1) * (fac pf * 1000 / (pt - 250) + 1) * (fac pf * 1000 / (pt - 250) + 1) - 1) / 1000000 < 10000 then ((fac pf * 1000 / (pt - 250) + 1) * (fac pf * 1000 / (pt - 250) + 1) * (fac pf * 1000 / (pt - 250) + 1) - 1) / 1000000 else 10000) else 10000
theorem rg_b {pf pt : Int} (h : 1 ≤ pt - 250) : 1 ≤ fac pf * 1000 / (pt - 250) + 1 ∧ fac pf * 1000 / (pt - 250) + 1 ≤ 1500001 := by
  have h0 := fac_b pf
  have h1 : 0 ≤ fac pf * 1000 / (pt - 250) := Int.ediv_nonneg (by omega) (by omega)
  have h2 : fac pf * 1000 / (pt - 250) ≤ fac pf * 1000 := Int.ediv_le_self _ (by omega)
  omega
theorem hv_b {pf pt : Int} : 0 ≤ hv pf pt ∧ hv pf pt ≤ 10000 := by
  unfold hv
  split
  · rename_i h
    obtain ⟨h1, h2⟩ := rg_b (pf := pf) h
    have h3 := cub (x := 1) (by omega) h1
    have h4 : 0 ≤ ((fac pf * 1000 / (pt - 250) + 1) * (fac pf * 1000 / (pt - 250) + 1) * (fac pf * 1000 / (pt - 250) + 1) - 1) / 1000000 := Int.ediv_nonneg (by omega) (by omega)
    split <;> omega
  · omega
theorem hv_no {c0 t0 sp pf pt n : Int} (hc : 0 ≤ c0) (ht : 0 ≤ t0) (hsp : 0 ≤ sp) (hn : hv pf pt < n) (hn2 : n ≤ 10000) : ¬ gdP c0 t0 sp pf pt n := by
  have hb := hv_b (pf := pf) (pt := pt)
  rintro ⟨g1, g2⟩
  have hn1 : 1 ≤ n := by omega
  unfold hv at hn
  by_cases c : 1 ≤ pt - 250
  · rw [if_pos c] at hn
    obtain ⟨h1, h2⟩ := rg_b (pf := pf) c
    obtain ⟨rg, hrg⟩ : ∃ rg, rg = fac pf * 1000 / (pt - 250) + 1 := ⟨_, rfl⟩
    rw [← hrg] at hn h1 h2
    have h3 : (rg * rg * rg - 1) / 1000000 < n := by
      split at hn <;> omega
    have h4 : rg * rg * rg ≤ 1000000 * n := by omega
    have hr := rtI_is (w := n) (by omega) (by omega)
    have hrb := rtI_b (w := n) hn1 (by omega)
    have h5 : rg ≤ rtI n := by
      by_cases q : rtI n < rg
      · have := (rt_lt hr (show 0 ≤ rg by omega)).mpr q
        omega
      · omega
    have h6 : fac pf * 1000 < rg * (pt - 250) := by
      have h7 := Int.mul_ediv_add_emod (fac pf * 1000) (pt - 250)
      have h8 := Int.emod_lt_of_pos (fac pf * 1000) (show 0 < pt - 250 by omega)
      rw [hrg, Int.add_mul, Int.one_mul, Int.mul_comm (fac pf * 1000 / (pt - 250))]
      omega
    have h9 : fac pf * 1000 < rtI n * (pt - 250) := by
      have := Int.mul_le_mul_of_nonneg_right h5 (show 0 ≤ pt - 250 by omega)
      omega
    have h10 : fac pf * 1000 / rtI n < pt - 250 := Int.ediv_lt_of_lt_mul (by omega) (by rw [Int.mul_comm (pt - 250)]; exact h9)
    have h11 := sh_nn (p := n) (s := sp) (by omega) hsp
    have h12 := cin_nn (n := n) (c := c0) (t := t0) (by omega) hc ht
    have h13 := cin_le (n := n) (c := c0) (t := t0) (by omega) hc ht (by omega)
    have h14 := alo_le (c := cin n c0 t0) (t := n - cin n c0 t0) (by omega) (by omega)
    unfold pit at g2
    omega
  · rw [if_neg c] at hn
    omega
theorem c_hv {M : MM} {pf pt : Int} (hp : 0 ≤ pf ∧ pf ≤ 3) (ht : 1 ≤ pt ∧ pt ≤ 20000) : f_X10_heaviestAtPitch M (iI pf) (iI pt) = some (iI (hv pf pt), M) := by
  have hf := fac_b pf
  have e250 : iI pt - 250 = iI (pt - 250) := by rw [Z250, iI_sub]
  unfold f_X10_heaviestAtPitch hv
  rw [e250]
  by_cases c : 1 ≤ pt - 250
  · obtain ⟨h1, h2⟩ := rg_b (pf := pf) c
    have er : sFac (iI pf).toNatClampNeg * 1000 / iI (pt - 250) + 1 = iI (fac pf * 1000 / (pt - 250) + 1) := by
      rw [sFac_e hp, Z1000, iI_mul, iI_div (by omega) (by omega) (by omega) (by omega), Z1, iI_add]
    obtain ⟨rg, hrg⟩ : ∃ rg, rg = fac pf * 1000 / (pt - 250) + 1 := ⟨_, rfl⟩
    rw [← hrg] at h1 h2 er ⊢
    have h3 := cubB (u := rg) (by omega) (by omega)
    have h4 := cub (x := 1) (by omega) h1
    have h5 : 0 ≤ (rg * rg * rg - 1) / 1000000 := Int.ediv_nonneg (by omega) (by omega)
    have h6 : (rg * rg * rg - 1) / 1000000 ≤ rg * rg * rg - 1 := Int.ediv_le_self _ (by omega)
    rw [if_pos (by rw [Z1, iI_le (by omega) (by omega)]; exact c), if_pos c, if_pos ((iI_vin (by omega) (by omega)).mpr (by omega)), if_neg (by rw [Z0, iI_inj (by omega) (by omega)]; omega), er, e_cube (by omega) (by omega), bnd2_s, ZL1, lI_sub, ZL1000000, lI_div (by omega) (by omega) (by omega) (by omega), ZL10000]
    refine congrArg (fun z => some (z, M)) ?_
    unfold jlmin
    by_cases d : (rg * rg * rg - 1) / 1000000 < 10000
    · rw [if_pos ((lI_lt (by omega) (by omega)).mpr d), if_pos d, lI_i (by omega)]
    · rw [if_neg (fun q => d ((lI_lt (by omega) (by omega)).mp q)), if_neg d, lI_i (by omega)]
  · rw [if_neg (by rw [Z1, iI_le (by omega) (by omega)]; exact c), if_neg c]; rfl
end
