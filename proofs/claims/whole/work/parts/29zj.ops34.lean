section
/-! Frames: the reference's parts. -/
theorem RFe {N : MM} {a : Nat → Int} (h : N 21 = iF a) : RF N a = N := by unfold RF; rw [← h, sg_id]
def fTX (N : MM) (L : Nat) (t : Nat → Int) : Prop := N 20 8 = iI L ∧ ∀ i, i < L → N 27 i = iI (t i)
theorem r_isDigit {N : MM} {L i : Nat} {t : Nat → Int} (hL : L ≤ 60) (h : fTX N L t) (ht : ∀ i, i < L → 32 ≤ t i ∧ t i ≤ 126) (hi : i ≤ 100) : f_X11_isDigit N (iI i) = some (dI (i < L ∧ dgP t i), N) := by
  unfold f_X11_isDigit
  rw [h.1]
  by_cases c : L ≤ i
  · rw [if_pos (by rw [iI_le (by omega) (by omega)]; omega), dI_f (by omega)]
  · have hti := ht i (by omega)
    rw [if_neg (by rw [iI_le (by omega) (by omega)]; omega), if_pos (vinI (by omega) (by omega)), iI_lo (by omega), h.2 i (by omega), r_inL 48 57 (by omega) (show (48 : Int32) = iI 48 from rfl) (show (57 : Int32) = iI 57 from rfl) (by omega) (by omega), bnd2_s]
    by_cases d : dgP t i
    · rw [ify d, dI_t ⟨by omega, d⟩]
    · rw [ifn d, dI_f (fun q => d q.2)]
/-- a bell is hung -/
def fPU (N : MM) (mn op b wd : Nat) (pos : Nat) (w : Int) : MM := up2 (up2 (up2 (up2 (up2 N 28 mn (iI b)) 29 mn (iI op)) 20 11 (iI ((mn + 1 : Nat) : Int))) 20 18 (iI ((pos + wd : Nat) : Int))) 20 20 (iI w)
theorem l_76 {N : MM} {a : Nat → Int} {mn op b pos : Nat} {hb : Nat → Nat} {P : Prop} [Decidable P] (h21 : N 21 = iF a) (hmn : mn < 30) (hop : op ≤ 5) (hpos : pos ≤ 60) (hbb : b < 100) (h11 : N 20 11 = iI mn) (h15 : N 20 15 = iI op) (h18 : N 20 18 = iI pos) (h28 : ∀ k, k < mn → N 28 k = iI (hb k)) (hhb : ∀ k, k < mn → hb k < 100) (hne : ∀ k, k < mn → hb k ≠ b) : ∀ (j fu z : Nat), z + j = mn → j < fu → lp_X11_takesBell_76 fu N (iI b) (dI P) (iI z) = some (1, fPU N mn op b (if P then 2 else 1) pos (wgt a b)) := by
  intro j
  induction j with
  | zero =>
    intro fu z hz hf
    obtain ⟨f, rfl⟩ : ∃ f, fu = f + 1 := ⟨fu - 1, by omega⟩
    obtain rfl : z = mn := by omega
    have vz : vin (iI (z : Int)) 30 := vinI (by omega) (by omega)
    have tz : (iI (z : Int)).toNatClampNeg = z := iI_lo (by omega)
    have em : iI (z : Int) + 1 = iI ((z + 1 : Nat) : Int) := by rw [Z1, iI_add]; congr 1
    have ep1 : iI (pos : Int) + 1 = iI ((pos + 1 : Nat) : Int) := by rw [Z1, iI_add]; congr 1
    have ep2 : iI (pos : Int) + 2 = iI ((pos + 2 : Nat) : Int) := by rw [Z2, iI_add]; congr 1
    obtain ⟨N3, hN3⟩ : ∃ N3, N3 = up2 (up2 (up2 N 28 z (iI b)) 29 z (iI op)) 20 11 (iI ((z + 1 : Nat) : Int)) := ⟨_, rfl⟩
    have w18 : N3 20 18 = iI pos := by rw [hN3, up2_in _ (by omega), up2_gn (by omega), up2_gn (by omega)]; exact h18
    have wt : ∀ x : Int32, f_X11_weight (up2 N3 20 18 x) (iI ((54 + 8 * b : Nat) : Int)) = some (iI (wgt a b), up2 N3 20 18 x) := by
      intro x
      have e : (up2 N3 20 18 x) 21 = iF a := by rw [up2_gn (by omega), hN3, up2_gn (by omega), up2_gn (by omega), up2_gn (by omega)]; exact h21
      have h := r_weightB (M := up2 N3 20 18 x) (a := a) (j := b) hbb
      rw [RFe e] at h
      exact h
    unfold lp_X11_takesBell_76
    rw [h11, if_pos (by rw [iI_le (by omega) (by omega)]; omega), if_pos vz]
    simp only [tz, letB_e, up2_gn (show 20 ≠ 28 by omega), up2_gn (show 20 ≠ 29 by omega), h11, if_pos vz, h15, em, ← hN3, w18]
    by_cases c : P
    · rw [dI_t c, if_neg (by decide), ep2, r_atBell, bnd2_s, wt, bnd2_s, if_pos c, hN3]; rfl
    · rw [dI_f c, if_pos rfl, ep1, r_atBell, bnd2_s, wt, bnd2_s, if_neg c, hN3]; rfl
  | succ j ih =>
    intro fu z hz hf
    obtain ⟨f, rfl⟩ : ∃ f, fu = f + 1 := ⟨fu - 1, by omega⟩
    have e1 : iI (z : Int) + 1 = iI ((z + 1 : Nat) : Int) := by rw [Z1, iI_add]; congr 1
    have hz2 := hhb z (by omega)
    have hz3 := hne z (by omega)
    unfold lp_X11_takesBell_76
    rw [h11, if_neg (by rw [iI_le (by omega) (by omega)]; omega), if_pos (vinI (by omega) (by omega)), iI_lo (by omega), h28 z (by omega), if_neg (by rw [iI_inj (by omega) (by omega)]; omega), e1]
    exact ih f (z + 1) (by omega) (by omega)
theorem l_76f {N : MM} {mn b : Nat} {hb : Nat → Nat} {y : Int32} (hmn : mn < 30) (hbb : b < 100) (h11 : N 20 11 = iI mn) (h28 : ∀ k, k < mn → N 28 k = iI (hb k)) (hhb : ∀ k, k < mn → hb k < 100) : ∀ (j fu z : Nat), z + j = mn → j < fu → (∃ k, z ≤ k ∧ k < mn ∧ hb k = b) → lp_X11_takesBell_76 fu N (iI b) y (iI z) = some (0, up2 N 20 19 3) := by
  intro j
  induction j with
  | zero =>
    intro fu z hz hf hex
    obtain ⟨k, k1, k2, k3⟩ := hex
    omega
  | succ j ih =>
    intro fu z hz hf hex
    obtain ⟨k, k1, k2, k3⟩ := hex
    obtain ⟨f, rfl⟩ : ∃ f, fu = f + 1 := ⟨fu - 1, by omega⟩
    have e1 : iI (z : Int) + 1 = iI ((z + 1 : Nat) : Int) := by rw [Z1, iI_add]; congr 1
    have hz2 := hhb z (by omega)
    unfold lp_X11_takesBell_76
    rw [h11, if_neg (by rw [iI_le (by omega) (by omega)]; omega), if_pos (vinI (by omega) (by omega)), iI_lo (by omega), h28 z (by omega)]
    by_cases c : hb z = b
    · rw [if_pos (by rw [c])]
      unfold f_X11_fails
      rw [letB_e, bnd2_s]
    · rw [if_neg (by rw [iI_inj (by omega) (by omega)]; omega), e1]
      have hk : z + 1 ≤ k := by
        by_cases e : k = z
        · rw [e] at k3; exact absurd k3 c
        · omega
      exact ih f (z + 1) (by omega) (by omega) ⟨k, hk, k2, k3⟩
theorem nu_b {t : Nat → Int} {L i : Nat} (h : dgP t i) : 0 ≤ nuI t L i ∧ nuI t L i ≤ 99 := by
  unfold nuI
  split
  · rename_i q
    have := q.2
    unfold dgP at this h
    omega
  · unfold dgP at h; omega
/-- what the reference does with a bell's number -/
def rBL (N : MM) (L pos : Nat) (t : Nat → Int) : Option (Int32 × MM) := (bnd2 (f_X11_isBell N (iI (nuI t L pos))) fun r6 M7 => (if (r6 : Int32) = 0 then (bnd2 (f_X11_fails M7 2) fun r10 M11 => some (r10, M11)) else (bnd2 (f_X11_isHere M7 (iI (nuI t L pos))) fun r13 M14 => (if (r13 : Int32) = 0 then (bnd2 (f_X11_fails M14 2) fun r17 M18 => some (r17, M18)) else (lp_X11_takesBell_76 FU M14 (iI (nuI t L pos)) (dI (twP t L pos)) 0)))))
theorem r_takesBell {N : MM} {L pos : Nat} {t : Nat → Int} (hL : L ≤ 60) (h : fTX N L t) (ht : ∀ i, i < L → 32 ≤ t i ∧ t i ≤ 126) (hp : pos < L) (hd : dgP t pos) (h18 : N 20 18 = iI pos) : f_X11_takesBell N = rBL N L pos t := by
  have e1 : iI (pos : Int) + 1 = iI ((pos + 1 : Nat) : Int) := by rw [Z1, iI_add]; congr 1
  have vp : vin (iI (pos : Int)) 60 := vinI (by omega) (by omega)
  have tp : (iI (pos : Int)).toNatClampNeg = pos := iI_lo (by omega)
  have Z48' : (48 : Int32) = iI 48 := rfl
  unfold f_X11_takesBell rBL
  rw [h18, if_pos vp, e1, r_isDigit hL h ht (by omega), bnd2_s]
  by_cases c : twP t L pos
  · have hc : pos + 1 < L ∧ dgP t (pos + 1) := c
    have vp1 : vin (iI ((pos + 1 : Nat) : Int)) 60 := vinI (by omega) (by omega)
    have tp1 : (iI ((pos + 1 : Nat) : Int)).toNatClampNeg = pos + 1 := iI_lo (by omega)
    have en : (10 : Int32) * (iI (t pos) - 48) + iI (t (pos + 1)) - 48 = iI (nuI t L pos) := by
      unfold nuI
      rw [if_pos c, Z10, Z48', iI_sub, iI_mul, iI_add, iI_sub]; congr 1; omega
    rw [ify hc, h18, e1, if_pos vp1]
    simp only [tp, tp1, h.2 pos hp, h.2 (pos + 1) c.1, en, letJ_e]
  · have hc : ¬ (pos + 1 < L ∧ dgP t (pos + 1)) := c
    have en : iI (t pos) - 48 = iI (nuI t L pos) := by
      unfold nuI
      rw [if_neg c, Z48', iI_sub]
    rw [ifn hc]
    simp only [tp, h.2 pos hp, en]
end
