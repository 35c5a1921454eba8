section
/-! The call wagons: the bells that are told. -/
abbrev wgt (a : Nat → Int) (z : Nat) : Int := a (54 + 8 * z) + a (55 + 8 * z)
abbrev slP (a : Nat → Int) (x : Int32) (z : Nat) : Prop := a (60 + 8 * z) < 2 ∧ bt x (cn (hereP a) z)
def wsz (a : Nat → Int) (x : Int32) : Nat → Nat
  | 0 => 0
  | z + 1 => if slP a x z then wsz a x z + 1 else wsz a x z
def wwt (a : Nat → Int) (x : Int32) : Nat → Nat → Int
  | 0 => fun _ => 0
  | z + 1 => if slP a x z then uI (wwt a x z) (wsz a x z) (wgt a z) else wwt a x z
def wlt (a : Nat → Int) (x : Int32) : Nat → Int
  | 0 => 1
  | z + 1 => if slP a x z then (if wlt a x z = 0 then 0 else if a 51 < wgt a z then 0 else 1) else wlt a x z
theorem here_t {a : Nat → Int} {z : Nat} (h : a (60 + 8 * z) < 2) : cn (hereP a) (z + 1) = cn (hereP a) z + 1 := cn_s (by unfold hereP; simpa using h)
theorem here_f {a : Nat → Int} {z : Nat} (h : ¬ a (60 + 8 * z) < 2) : cn (hereP a) (z + 1) = cn (hereP a) z := cn_f (by unfold hereP; simpa using h)
theorem wsz_le (a : Nat → Int) (x : Int32) : ∀ z, wsz a x z ≤ cn (hereP a) z := by
  intro z
  induction z with
  | zero => exact Nat.le_refl _
  | succ z ih =>
    unfold wsz
    by_cases c : slP a x z
    · rw [if_pos c, here_t c.1]; omega
    · rw [if_neg c]
      have := cn_mono (hereP a) (show z ≤ z + 1 by omega)
      omega
theorem wlt_01 (a : Nat → Int) (x : Int32) : ∀ z, wlt a x z = 0 ∨ wlt a x z = 1 := by
  intro z
  induction z with
  | zero => exact Or.inr rfl
  | succ z ih =>
    unfold wlt
    split
    · split
      · exact Or.inl rfl
      · split
        · exact Or.inl rfl
        · exact Or.inr rfl
    · exact ih
theorem wlt_all (a : Nat → Int) (x : Int32) : ∀ z, wlt a x z = 1 ↔ ∀ i, i < wsz a x z → wwt a x z i ≤ a 51 := by
  intro z
  induction z with
  | zero => exact ⟨fun _ i hi => absurd hi (Nat.not_lt_zero i), fun _ => rfl⟩
  | succ z ih =>
    unfold wlt wsz wwt
    by_cases c : slP a x z
    · rw [if_pos c, if_pos c, if_pos c]
      constructor
      · intro h i hi
        by_cases d : wlt a x z = 0
        · rw [if_pos d] at h; omega
        · rw [if_neg d] at h
          by_cases e : a 51 < wgt a z
          · rw [if_pos e] at h; omega
          · by_cases f : i = wsz a x z
            · rw [f, uI_s]; omega
            · rw [uI_n f]
              exact ih.mp (by have := wlt_01 a x z; omega) i (by omega)
      · intro h
        have h1 : wlt a x z = 1 := ih.mpr (fun i hi => by
          have := h i (by omega)
          rwa [uI_n (by omega)] at this)
        have h2 := h (wsz a x z) (by omega)
        rw [uI_s] at h2
        rw [if_neg (by omega), if_neg (by omega)]
    · rw [if_neg c, if_neg c, if_neg c]; exact ih
theorem up2_87 (M : MM) (p w : Nat → Int32) (i : Nat) (x : Int32) : up2 (sg (sg M 7 p) 8 w) 7 i x = sg (sg M 7 (upd p i x)) 8 w := by
  funext G
  by_cases h : G = 7
  · subst h; rw [up2_gr, sg_n (by omega), sg_s, sg_n (by omega), sg_s]
  · rw [up2_gn h]
    by_cases h8 : G = 8
    · subst h8; rw [sg_s, sg_s]
    · rw [sg_n h8, sg_n h, sg_n h8, sg_n h]
/-- what the class does when it has looked at all bells -/
def wFIN (M : MM) : Option (Int32 × MM) := (if vin (6) 7 then (bnd2 (f_X8_heaviest M ) fun r1003 M1004 => (if (r1003 : Int32) ≤ (M (40 + 0) (6 : Int32).toNatClampNeg : Int32) then (bnd2 (f_X8_fewestWagons M1004 (M (40 + 0) (6 : Int32).toNatClampNeg)) fun r1007 M1008 => some (r1007, M1008)) else some (-2, M1004))) else none)
theorem l_w30 {k : Int} {M : MM} {a : Nat → Int} (R : RA (M 0) (M 40) (M 50) a) {nb : Nat} (hn : a 52 = nb) (h12 : cn (hereP a) nb ≤ 12) (hb : ∀ b, b < nb → BB k a b) {X : Nat} (hX : X < 2 ^ 31) : ∀ (j fu z : Nat) (p w : Nat → Int32), z + j = nb → j < fu → p 0 = iI (wsz a (iI X) z) → (∀ i, i < wsz a (iI X) z → w i = iI (wwt a (iI X) z i)) → ∃ p' w', p' 0 = iI (wsz a (iI X) nb) ∧ (∀ i, i < wsz a (iI X) nb → w' i = iI (wwt a (iI X) nb i)) ∧ lp_X10_wagons_30 fu (sg (sg M 7 p) 8 w) (iI X) (iI ((2 ^ cn (hereP a) z : Nat) : Int)) (iI z) = wFIN (sg (sg M 7 p') 8 w') := by
  have hcb := R.cb
  intro j
  induction j with
  | zero =>
    intro fu z p w hz hf h1 h2
    obtain ⟨f, rfl⟩ : ∃ f, fu = f + 1 := ⟨fu - 1, by omega⟩
    obtain rfl : z = nb := by omega
    refine ⟨p, w, h1, h2, ?_⟩
    unfold lp_X10_wagons_30
    rw [if_pos (by rw [sg_n (by omega), sg_n (by omega), R.nb, hn, iI_le (by omega) (by omega)]; omega)]
    rfl
  | succ j ih =>
    intro fu z p w hz hf h1 h2
    obtain ⟨f, rfl⟩ : ∃ f, fu = f + 1 := ⟨fu - 1, by omega⟩
    have Bz := hb z (by omega)
    obtain ⟨b1, b2, b3, b4, b5, b6, b7, b8, b9⟩ := Bz
    have R' : RA (sg (sg M 7 p) 8 w 0) (sg (sg M 7 p) 8 w 40) (sg (sg M 7 p) 8 w 50) a := by
      rw [sg_n (by omega), sg_n (by omega), sg_n (by omega), sg_n (by omega), sg_n (by omega), sg_n (by omega)]; exact R
    have e1 : iI (z : Int) + 1 = iI ((z + 1 : Nat) : Int) := by rw [Z1, iI_add]; congr 1
    have tz : (iI (z : Int)).toNatClampNeg = z := iI_lo (by omega)
    have vz : vin (iI (z : Int)) 100 := vinI (by omega) (by omega)
    have hcn := cn_mono (hereP a) (show z + 1 ≤ nb by omega)
    have hsz := wsz_le a (iI X) z
    unfold lp_X10_wagons_30
    rw [if_neg (by rw [R'.nb, hn, iI_le (by omega) (by omega)]; omega), if_pos vz, tz, c_remains R' (by omega) b6, bnd2_s]
    by_cases c : a (60 + 8 * z) < 2
    · rw [ify c]
      have ht := here_t c
      have e2 := shl_2 (cn (hereP a) z) (by omega)
      by_cases d : tb X (cn (hereP a) z)
      · have hsl : slP a (iI X) z := ⟨c, (bt_tb hX (by omega)).mpr d⟩
        rw [if_neg (fun q => (and_p0 hX (by omega)).mp q d), e_weight, bnd2_s, R'.b0 (by omega), R'.b1 (by omega), iI_add]
        have hs : sg (sg M 7 p) 8 w 7 0 = iI (wsz a (iI X) z) := by rw [sg_n (by omega), sg_s, h1]
        have ts : (iI (wsz a (iI X) z : Int)).toNatClampNeg = wsz a (iI X) z := iI_lo (by omega)
        have vs : vin (iI (wsz a (iI X) z : Int)) 12 := vinI (by omega) (by omega)
        have ea : f_X8_add (sg (sg M 7 p) 8 w) (iI (a (54 + 8 * z) + a (55 + 8 * z))) = some ((), sg (sg M 7 (upd p 0 (iI ((wsz a (iI X) z + 1 : Nat) : Int)))) 8 (upd w (wsz a (iI X) z) (iI (wgt a z)))) := by
          unfold f_X8_add
          rw [hs, if_neg (by rw [Z12, iI_le (by omega) (by omega)]; omega), if_pos vs, ts, up2_sg, letB_e, up2_87, letB_e, sg_n (show 7 ≠ 8 by omega), sg_s, h1, Z1, iI_add]
          rfl
        rw [ea, bnd2_s, e2, e1, ← ht]
        have hw1 : wsz a (iI X) (z + 1) = wsz a (iI X) z + 1 := by rw [wsz]; rw [if_pos hsl]
        have hw2 : wwt a (iI X) (z + 1) = uI (wwt a (iI X) z) (wsz a (iI X) z) (wgt a z) := by rw [wwt]; rw [if_pos hsl]
        refine ih f (z + 1) _ _ (by omega) (by omega) (by rw [upd_s, hw1]) (fun i hi => ?_)
        rw [hw1] at hi
        rw [hw2]
        by_cases e : i = wsz a (iI X) z
        · rw [e, upd_s, uI_s]
        · rw [upd_n e, uI_n e]; exact h2 i (by omega)
      · have hsl : ¬ slP a (iI X) z := fun q => d ((bt_tb hX (by omega)).mp q.2)
        have hw1 : wsz a (iI X) (z + 1) = wsz a (iI X) z := by rw [wsz]; rw [if_neg hsl]
        have hw2 : wwt a (iI X) (z + 1) = wwt a (iI X) z := by rw [wwt]; rw [if_neg hsl]
        rw [if_pos ((and_p0 hX (by omega)).mpr d), e2, e1, ← ht]
        exact ih f (z + 1) p w (by omega) (by omega) (by rw [hw1]; exact h1) (by rw [hw1, hw2]; exact h2)
    · have hsl : ¬ slP a (iI X) z := fun q => c q.1
      have hw1 : wsz a (iI X) (z + 1) = wsz a (iI X) z := by rw [wsz]; rw [if_neg hsl]
      have hw2 : wwt a (iI X) (z + 1) = wwt a (iI X) z := by rw [wwt]; rw [if_neg hsl]
      rw [ifn c, e1, ← here_f c]
      exact ih f (z + 1) p w (by omega) (by omega) (by rw [hw1]; exact h1) (by rw [hw1, hw2]; exact h2)
def hmx (W : Nat → Int) : Nat → Int
  | 0 => 0
  | i + 1 => if hmx W i < W i then W i else hmx W i
theorem hmx_b {W : Nat → Int} {B : Int} (hB : 0 ≤ B) : ∀ n, (∀ i, i < n → W i ≤ B) → 0 ≤ hmx W n ∧ hmx W n ≤ B := by
  intro n
  induction n with
  | zero => intro _; exact ⟨Int.le_refl _, hB⟩
  | succ n ih =>
    intro h
    have h1 := ih (fun i hi => h i (by omega))
    have h2 := h n (by omega)
    unfold hmx
    split <;> omega
theorem hmx_le {W : Nat → Int} {l : Int} (hl : 0 ≤ l) : ∀ n, hmx W n ≤ l ↔ ∀ i, i < n → W i ≤ l := by
  intro n
  induction n with
  | zero => exact ⟨fun _ i hi => absurd hi (Nat.not_lt_zero i), fun _ => hl⟩
  | succ n ih =>
    constructor
    · intro h i hi
      unfold hmx at h
      by_cases c : hmx W n < W n
      · rw [if_pos c] at h
        by_cases e : i = n
        · rw [e]; exact h
        · exact ih.mp (by omega) i (by omega)
      · rw [if_neg c] at h
        by_cases e : i = n
        · rw [e]; omega
        · exact ih.mp h i (by omega)
    · intro h
      unfold hmx
      split
      · exact h n (by omega)
      · exact ih.mpr (fun i hi => h i (by omega))
theorem l_heav {M : MM} {n : Nat} {W : Nat → Int} (hn : n ≤ 12) (h7 : M 7 0 = iI n) (h8 : ∀ i, i < n → M 8 i = iI (W i)) (hW : ∀ i, i < n → W i ≤ 1000000) : ∀ (j fu z : Nat), z + j = n → j < fu → (∀ i, i < n → 0 ≤ W i) → lp_X8_heaviest_4 fu M (iI (hmx W z)) (iI z) = some (iI (hmx W n), M) := by
  intro j
  induction j with
  | zero =>
    intro fu z hz hf _
    obtain ⟨f, rfl⟩ : ∃ f, fu = f + 1 := ⟨fu - 1, by omega⟩
    obtain rfl : z = n := by omega
    unfold lp_X8_heaviest_4
    rw [if_pos (by rw [h7, iI_le (by omega) (by omega)]; omega)]
  | succ j ih =>
    intro fu z hz hf h0
    obtain ⟨f, rfl⟩ : ∃ f, fu = f + 1 := ⟨fu - 1, by omega⟩
    have e1 : iI (z : Int) + 1 = iI ((z + 1 : Nat) : Int) := by rw [Z1, iI_add]; congr 1
    have hb := hmx_b (W := W) (B := 1000000) (by omega) z (fun i hi => hW i (by omega))
    have hz1 := hW z (by omega)
    have hz2 := h0 z (by omega)
    unfold lp_X8_heaviest_4
    rw [if_neg (by rw [h7, iI_le (by omega) (by omega)]; omega), if_pos (vinI (by omega) (by omega)), iI_lo (by omega), h8 z (by omega), e_jmax (by omega) (by omega), e1]
    exact ih f (z + 1) (by omega) (by omega) h0
end
