section
/-! The calls fault, frame. -/
theorem l_fill {M : MM} (x : Int32) : ∀ (j fu z : Nat) (w : Nat → Int32), z + j = 100 → j < fu → lp_J7_fill_53178_5 fu (sg M 13 w) x (iI z) 100 = some ((), sg M 13 (fun q => if z ≤ q ∧ q < 100 then x else w q)) := by
  intro j
  induction j with
  | zero =>
    intro fu z w hz hf
    obtain ⟨f, rfl⟩ : ∃ f, fu = f + 1 := ⟨fu - 1, by omega⟩
    obtain rfl : z = 100 := by omega
    unfold lp_J7_fill_53178_5
    rw [if_pos (by decide)]
    refine congrArg (fun w' => some ((), sg M 13 w')) ?_
    funext q
    rw [if_neg (by omega)]
  | succ j ih =>
    intro fu z w hz hf
    obtain ⟨f, rfl⟩ : ∃ f, fu = f + 1 := ⟨fu - 1, by omega⟩
    have e1 : iI (z : Int) + 1 = iI ((z + 1 : Nat) : Int) := by rw [Z1, iI_add]; congr 1
    have tz : (iI (z : Int)).toNatClampNeg = z := iI_lo (by omega)
    unfold lp_J7_fill_53178_5
    rw [if_neg (by rw [Z100, iI_le (by omega) (by omega)]; omega), if_pos (vinI (by omega) (by omega))]
    simp only [tz, up2_sg, letB_e, e1]
    rw [ih f (z + 1) _ (by omega) (by omega)]
    refine congrArg (fun w' => some ((), sg M 13 w')) ?_
    funext q
    by_cases h1 : z + 1 ≤ q ∧ q < 100
    · rw [if_pos h1, if_pos (by omega)]
    · rw [if_neg h1]
      by_cases h2 : q = z
      · rw [if_pos (by omega), h2, upd_s]
      · rw [if_neg (by omega), upd_n h2]
theorem c_begin (M : MM) (a : Nat → Int) : ∃ M1, f_X1_begin M = some ((), M1) ∧ CFr M M1 ∧ fcI M1 a 0 0 0 0 0 0 (fun _ => 0) (fun _ => 0) (fun _ => 0) (fun _ => 0) := by
  obtain ⟨M2, hM2⟩ : ∃ M2, M2 = up2 (up2 M 10 0 0) 10 6 0 := ⟨_, rfl⟩
  have lf := l_fill (M := M2) 0 100 FU 0 (M2 13) (by omega) (by unfold FU; omega)
  rw [sg_id] at lf
  obtain ⟨M4, hM4⟩ : ∃ M4, M4 = sg M2 13 (fun q => if 0 ≤ q ∧ q < 100 then 0 else M2 13 q) := ⟨_, rfl⟩
  rw [← hM4] at lf
  have lf' : f_J7_fill_53178 M2 0 = some ((), M4) := lf
  refine ⟨up2 (up2 (up2 (up2 M4 10 8 0) 10 9 0) 10 10 0) 10 11 0, ?_, ?_, ⟨⟨?_, ?_, ?_, ?_, ?_, ?_⟩, fun i hi => absurd hi (Nat.not_lt_zero i), fun i hi => absurd hi (Nat.not_lt_zero i), fun he => absurd rfl he, fun b hb => ?_⟩⟩
  · unfold f_X1_begin
    rw [letB_e, letB_e, ← hM2, lf', bnd2_s, letB_e, letB_e, letB_e, letB_e]
  · refine CFr.up (CFr.up (CFr.up (CFr.up ?_ _ (by omega)) _ (by omega)) _ (by omega)) _ (by omega)
    intro G q1 q2 q3 q4
    rw [hM4, sg_n q3, hM2, up2_gn q1, up2_gn q1]
  · rw [up2_in _ (by omega), up2_in _ (by omega), up2_in _ (by omega), up2_in _ (by omega), hM4, sg_n (by omega), hM2, up2_in _ (by omega), up2_eq]; rfl
  · rw [up2_in _ (by omega), up2_in _ (by omega), up2_in _ (by omega), up2_in _ (by omega), hM4, sg_n (by omega), hM2, up2_eq]; rfl
  · rw [up2_in _ (by omega), up2_in _ (by omega), up2_in _ (by omega), up2_eq]; rfl
  · rw [up2_in _ (by omega), up2_in _ (by omega), up2_eq]; rfl
  · rw [up2_in _ (by omega), up2_eq]; rfl
  · rw [up2_eq]; rfl
  · rw [up2_gn (by omega), up2_gn (by omega), up2_gn (by omega), up2_gn (by omega), hM4, sg_s, if_pos (by omega)]
    exact ⟨fun _ k hk => absurd hk (Nat.not_lt_zero k), fun _ => rfl⟩
theorem g_begin (a : Nat → Int) : fgI a 0 0 0 0 0 0 0 (fun _ => 0) (fun _ => 0) (fun _ => 0) (fun _ => 0) := by
  refine ⟨⟨by omega, by omega, by omega, by omega, by omega, by omega, by omega, by rw [if_pos rfl]; omega⟩, fun k hk => absurd hk (Nat.not_lt_zero k), Or.inr ⟨rfl, rfl⟩, ⟨rfl, fun _ => rfl⟩, fun i hi => absurd hi (Nat.not_lt_zero i), fun i hi => Nat.zero_le _, fun q => absurd q (by omega), fun q => absurd q (by omega), fun q => absurd q (by omega)⟩
theorem CFr.FC {M M1 : MM} (h : CFr M M1) : FC M M1 := fun G g1 g2 => h G (by omega) (by omega) (by omega) (by omega)
/-! what has to be added -/
def mxv (f : Nat → Int) : Nat → Int
  | 0 => 0
  | z + 1 => if f z ≤ mxv f z then mxv f z else f z
theorem mxv_le {f : Nat → Int} {B : Int} (hB : 0 ≤ B) : ∀ n, (mxv f n ≤ B ↔ ∀ k, k < n → f k ≤ B) := by
  intro n
  induction n with
  | zero => exact ⟨fun _ k hk => absurd hk (Nat.not_lt_zero k), fun _ => hB⟩
  | succ n ih =>
    constructor
    · intro h k hk
      unfold mxv at h
      by_cases c : f n ≤ mxv f n
      · rw [if_pos c] at h
        by_cases e : k = n
        · rw [e]; omega
        · exact ih.mp h k (by omega)
      · rw [if_neg c] at h
        by_cases e : k = n
        · rw [e]; exact h
        · exact ih.mp (by omega) k (by omega)
    · intro h
      unfold mxv
      split
      · exact ih.mpr (fun k hk => h k (by omega))
      · exact h n (by omega)
theorem mxv_nn {f : Nat → Int} : ∀ n, 0 ≤ mxv f n := by
  intro n
  induction n with
  | zero => exact Int.le_refl _
  | succ n ih => unfold mxv; split <;> omega
theorem shl_w {w : Int} {d : Nat} (h0 : 0 ≤ w) (h1 : w ≤ 10000) (hd : d < 6) : iI w <<< (iI (d : Int) &&& 31) = iI (w * 2 ^ d) := by
  obtain ⟨W, rfl⟩ : ∃ W : Nat, w = W := ⟨w.toNat, by omega⟩
  have h7 := p2_7 d (by omega)
  have hle : W * 2 ^ d ≤ 10000 * 2 ^ 6 := Nat.mul_le_mul (by omega) (p2_le (by omega))
  have hlt : W * 2 ^ d < 2 ^ 32 := by
    have e1 : (2 : Nat) ^ 32 = 4294967296 := rfl
    have e2 : (2 : Nat) ^ 6 = 64 := rfl
    omega
  rw [iI_nI, pk_shlN (iI (d : Int) &&& 31) d (sm_k d (by omega)) hlt, ← iI_nI, Int.natCast_mul, h7.2]
end
