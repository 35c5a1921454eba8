section
/-! Frames: levels. -/
def RU (P n : Int) : Int := (n + P - 1) / P * P
theorem RU_ge {P n : Int} (hP : 0 < P) : n ≤ RU P n := by
  have h1 := Int.mul_ediv_add_emod (n + P - 1) P
  have h2 := Int.emod_lt_of_pos (n + P - 1) hP
  unfold RU
  rw [Int.mul_comm]
  omega
theorem RU_mod (P n : Int) : RU P n % P = 0 := by unfold RU; exact Int.mul_emod_left _ _
theorem RU_min {P n q : Int} (hP : 0 < P) (hq : q % P = 0) (h : n ≤ q) : RU P n ≤ q := by
  obtain ⟨s, rfl⟩ := Int.dvd_of_emod_eq_zero hq
  unfold RU
  have h1 : (n + P - 1) / P < s + 1 := Int.ediv_lt_of_lt_mul hP (by rw [Int.add_mul, Int.one_mul, Int.mul_comm s]; omega)
  have h2 := Int.mul_le_mul_of_nonneg_right (show (n + P - 1) / P ≤ s by omega) (show 0 ≤ P by omega)
  rw [Int.mul_comm P s]
  exact h2
theorem RU_un {P n V : Int} (hP : 0 < P) (h1 : V % P = 0) (h2 : n ≤ V) (h3 : ∀ q, q % P = 0 → n ≤ q → V ≤ q) : RU P n = V := by
  have a1 := RU_min hP h1 h2
  have a2 := h3 _ (RU_mod P n) (RU_ge hP)
  omega
theorem p2d (a : Nat) : ∀ j : Nat, (2 : Int) ^ a ∣ 2 ^ (a + j) := by
  intro j
  induction j with
  | zero => exact Int.dvd_refl _
  | succ j ih => rw [← Nat.add_assoc, Int.pow_succ]; exact Int.dvd_trans ih (Int.dvd_mul_right _ _)
theorem p2dvd {a b : Nat} (h : a ≤ b) : (2 : Int) ^ a ∣ 2 ^ b := by
  have := p2d a (b - a)
  rwa [show a + (b - a) = b by omega] at this
theorem mod_le {q : Int} {a b : Nat} (h : a ≤ b) (hq : q % 2 ^ b = 0) : q % 2 ^ a = 0 :=
  Int.emod_eq_zero_of_dvd (Int.dvd_trans (p2dvd h) (Int.dvd_of_emod_eq_zero hq))
theorem p2mono {a b : Nat} (h : a ≤ b) : (2 : Int) ^ a ≤ 2 ^ b := by
  obtain ⟨c, hc⟩ := p2dvd h
  have h1 := p2pos a
  have h2 := p2pos b
  by_cases q : 1 ≤ c
  · rw [hc]
    have := Int.mul_le_mul_of_nonneg_left q (show (0 : Int) ≤ 2 ^ a by omega)
    omega
  · have := Int.mul_le_mul_of_nonneg_left (show c ≤ 0 by omega) (show (0 : Int) ≤ 2 ^ a by omega)
    rw [Int.mul_zero] at this
    omega
section
variable {a : Nat → Int} {hb dp : Nat → Nat}
theorem vl_s {d k : Nat} (h : d + 1 ≤ dp k) : vl a hb dp d k = 2 * vl a hb dp (d + 1) k := by
  unfold vl
  rw [show dp k - d = (dp k - (d + 1)) + 1 by omega, Int.pow_succ, ← Int.mul_assoc, Int.mul_comm 2]
theorem LVL_b {x y d D : Nat} {V : Int} (h : LVL a hb dp x y d V D) (hw : ∀ k, x ≤ k → k < y → 0 ≤ wgt a (hb k) ∧ wgt a (hb k) ≤ 10000) : 0 ≤ V ∧ V ≤ 10000 * 2 ^ D := by
  obtain ⟨h1, h2, ⟨k, k1, k2, k3⟩, h4, h5⟩ := h
  have hv := (h2 k k1 k2).2.2
  have hk := hw k k1 k2
  have hp := p2pos (dp k - d)
  refine ⟨?_, h5 _ (Int.mul_emod_left _ _) (fun k k1 k2 => ?_)⟩
  · have : 0 ≤ vl a hb dp d k := Int.mul_nonneg hk.1 (by omega)
    omega
  · have hk := hw k k1 k2
    have hd := h2 k k1 k2
    have m1 : (2 : Int) ^ (dp k - d) ≤ 2 ^ D := p2mono (by omega)
    have hp := p2pos (dp k - d)
    unfold vl
    exact Int.mul_le_mul hk.2 m1 (by omega) (by omega)
theorem LVL_one {m d : Nat} (hd : dp m = d) : LVL a hb dp m (m + 1) d (wgt a (hb m)) 0 := by
  have e : ∀ k, m ≤ k → k < m + 1 → k = m := fun k _ _ => by omega
  have ev : vl a hb dp d m = wgt a (hb m) := by unfold vl; rw [hd, Nat.sub_self, Int.pow_zero, Int.mul_one]
  refine ⟨by omega, fun k k1 k2 => ?_, ⟨m, by omega, by omega, by omega⟩, by rw [Int.pow_zero]; exact Int.emod_one _, fun q _ h => by rw [← ev]; exact h m (by omega) (by omega)⟩
  rw [e k k1 k2, ev]
  omega
def mxI (x y : Int) : Int := if x < y then y else x
theorem LVL_two {x y z d D1 D2 E : Nat} {V1 V2 : Int} (h1 : LVL a hb dp x y (d + 1) V1 D1) (h2 : LVL a hb dp y z (d + 1) V2 D2) (hE : E = mxN D1 D2) : LVL a hb dp x z d (2 * RU (2 ^ E) (mxI V1 V2)) (E + 1) := by
  obtain ⟨a1, a2, ⟨ka, ka1, ka2, ka3⟩, a4, a5⟩ := h1
  obtain ⟨b1, b2, ⟨kb, kb1, kb2, kb3⟩, b4, b5⟩ := h2
  have hE1 : D1 ≤ E ∧ D2 ≤ E ∧ (E = D1 ∨ E = D2) := by rw [hE]; unfold mxN; split <;> omega
  have hp := p2pos E
  have hm1 : V1 ≤ mxI V1 V2 ∧ V2 ≤ mxI V1 V2 ∧ (mxI V1 V2 = V1 ∨ mxI V1 V2 = V2) := by unfold mxI; split <;> omega
  have hg := RU_ge (P := 2 ^ E) (n := mxI V1 V2) (by omega)
  have hmod := RU_mod (2 ^ E) (mxI V1 V2)
  refine ⟨by omega, fun k k1 k2 => ?_, ?_, ?_, fun q hq hall => ?_⟩
  · by_cases c : k < y
    · obtain ⟨q1, q2, q3⟩ := a2 k k1 c
      rw [vl_s q1]
      exact ⟨by omega, by omega, by omega⟩
    · obtain ⟨q1, q2, q3⟩ := b2 k (by omega) k2
      rw [vl_s q1]
      exact ⟨by omega, by omega, by omega⟩
  · rcases hE1.2.2 with e | e
    · exact ⟨ka, ka1, by omega, by omega⟩
    · exact ⟨kb, by omega, kb2, by omega⟩
  · obtain ⟨s, hs⟩ := Int.dvd_of_emod_eq_zero hmod
    rw [hs, Int.pow_succ, ← Int.mul_assoc, Int.mul_comm 2, Int.mul_assoc]
    rw [Int.mul_comm 2 s, ← Int.mul_assoc, Int.mul_comm (2 ^ E * s) 2, ← Int.mul_assoc, Int.mul_comm 2 (2 ^ E)]
    exact Int.mul_emod_right _ _
  · obtain ⟨s, hs⟩ := Int.dvd_of_emod_eq_zero hq
    have e : q = 2 * (2 ^ E * s) := by rw [hs, Int.pow_succ, Int.mul_comm (2 ^ E) 2, Int.mul_assoc]
    have hm : (2 ^ E * s) % 2 ^ E = 0 := Int.mul_emod_right _ _
    have v1 : V1 ≤ 2 ^ E * s := a5 _ (mod_le hE1.1 hm) (fun k k1 k2 => by
      have h := hall k k1 (by omega)
      rw [vl_s (a2 k k1 k2).1] at h
      omega)
    have v2 : V2 ≤ 2 ^ E * s := b5 _ (mod_le hE1.2.1 hm) (fun k k1 k2 => by
      have h := hall k (by omega) k2
      rw [vl_s (b2 k k1 k2).1] at h
      omega)
    have := RU_min (P := 2 ^ E) (n := mxI V1 V2) (by omega) hm (by omega)
    omega
theorem LVL_congr {hb' dp' : Nat → Nat} {x y d D : Nat} {V : Int} (h : LVL a hb dp x y d V D) (e1 : ∀ k, x ≤ k → k < y → hb' k = hb k) (e2 : ∀ k, x ≤ k → k < y → dp' k = dp k) : LVL a hb' dp' x y d V D := by
  have ev : ∀ k, x ≤ k → k < y → vl a hb' dp' d k = vl a hb dp d k := fun k k1 k2 => by unfold vl; rw [e1 k k1 k2, e2 k k1 k2]
  obtain ⟨h1, h2, ⟨k, k1, k2, k3⟩, h4, h5⟩ := h
  refine ⟨h1, fun k k1 k2 => by rw [ev k k1 k2, e2 k k1 k2]; exact h2 k k1 k2, ⟨k, k1, k2, by rw [e2 k k1 k2]; exact k3⟩, h4, fun q hq hall => h5 q hq (fun k k1 k2 => by rw [← ev k k1 k2]; exact hall k k1 k2)⟩
end
theorem neg_p : ∀ D : Nat, D < 7 → -(iI ((2 : Int) ^ D)) = iI ((2 : Int) ^ D - 1) ^^^ (-1 : Int32) := by decide
theorem msk_p : ∀ D : Nat, D < 7 → (iI ((2 : Int) ^ D - 1)).toBitVec.toNat = 2 ^ D - 1 := by decide
theorem p2_7 : ∀ D : Nat, D < 7 → (2 : Int) ^ D ≤ 64 ∧ ((2 ^ D : Nat) : Int) = (2 : Int) ^ D := by decide
theorem e_ru {M : MM} {D : Nat} {n : Int} (hD : D < 7) (h0 : 0 ≤ n) (h1 : n ≤ 10000000) : f_X4_roundUpTo M (iI (2 ^ D)) (iI n) = some (iI (RU (2 ^ D) n), M) := by
  have hp := p2pos D
  have h7 := p2_7 D hD
  obtain ⟨N, hN⟩ : ∃ N : Nat, (N : Int) = n + 2 ^ D - 1 := ⟨(n + 2 ^ D - 1).toNat, by omega⟩
  have hN2 : N < 2 ^ 32 := by
    have : (2 : Nat) ^ 32 = 4294967296 := rfl
    omega
  have hand : iI (N : Int) &&& iI ((2 : Int) ^ D - 1) = iI ((N % 2 ^ D : Nat) : Int) := by
    rw [iI_nI N, iI_nI (N % 2 ^ D)]
    exact pk_andN hN2 D (msk_p D hD)
  unfold f_X4_roundUpTo RU
  rw [iI_add, Z1, iI_sub, ← hN, neg_p D hD, and_not, hand, iI_sub]
  refine congrArg (fun z => some (iI z, M)) ?_
  have e1 : ((N % 2 ^ D : Nat) : Int) = (N : Int) % (2 : Int) ^ D := by rw [Int.natCast_emod, h7.2]
  rw [e1]
  have h2 := Int.mul_ediv_add_emod (N : Int) (2 ^ D)
  rw [Int.mul_comm] at h2
  omega
end
