section
/-! Frames: one step of the class's reading. -/
abbrev dgP (t : Nat → Int) (i : Nat) : Prop := 48 ≤ t i ∧ t i ≤ 57
abbrev twP (t : Nat → Int) (L i : Nat) : Prop := i + 1 < L ∧ dgP t (i + 1)
def nuI (t : Nat → Int) (L i : Nat) : Int := if twP t L i then 10 * (t i - 48) + (t (i + 1) - 48) else t i - 48
def wdN (t : Nat → Int) (L i : Nat) : Nat := if twP t L i then 2 else 1
def fCT (f : Nat) (L : Nat) (r : Int32) (nx : Nat) (M : MM) : Option (Unit × MM) := letB (up2 M 10 2 r) fun M2 => (if (M2 10 2 : Int32) = 0 then lp_X1_read_7 f M2 0 (iI L) (iI nx) else some ((), M2))
def fSG (M : MM) (x : Int) : Option (Int32 × MM) := if x = 40 then f_X1_openBeam M else if x = 44 then f_X1_passComma M else if x = 41 then f_X1_closeBeam M else some (1, M)
theorem bnd2_id {α β : Type} (o : Option (α × β)) : bnd2 o (fun r M => some (r, M)) = o := by
  cases o with
  | none => rfl
  | some q => rfl
theorem e_dig {M : MM} {x : Int} (hx : B31 x) : f_X1_isDigit M (iI x) = some (dI (48 ≤ x ∧ x ≤ 57), M) := by
  unfold f_X1_isDigit
  rw [show (48 : Int32) = iI 48 from rfl, show (57 : Int32) = iI 57 from rfl]
  by_cases h1 : x < 48
  · rw [if_pos ((iI_lt hx (by omega)).mpr h1), dI_f (by omega)]
  · rw [if_neg (fun q => h1 ((iI_lt hx (by omega)).mp q))]
    by_cases h2 : 57 < x
    · rw [if_pos ((iI_lt (by omega) hx).mpr h2), dI_f (by omega)]
    · rw [if_neg (fun q => h2 ((iI_lt (by omega) hx).mp q)), dI_t (by omega)]
theorem e_signD {M : MM} {x : Int} (hx : 48 ≤ x ∧ x ≤ 57) : f_X1_readSign M 0 (iI x) = f_X1_readBell M 0 (iI (x - 48)) := by
  unfold f_X1_readSign
  rw [e_dig (by omega), bnd2_s, ify hx]
  unfold f_X1_digit
  rw [bnd2_s, show (48 : Int32) = iI 48 from rfl, iI_sub, bnd2_id]
theorem e_signN {M : MM} {x : Int} (hx : B31 x) (h : ¬ (48 ≤ x ∧ x ≤ 57)) : f_X1_readSign M 0 (iI x) = fSG M x := by
  unfold f_X1_readSign fSG
  rw [e_dig hx, bnd2_s, ifn h, bnd2_id, bnd2_id, bnd2_id, show (40 : Int32) = iI 40 from rfl, show (44 : Int32) = iI 44 from rfl, show (41 : Int32) = iI 41 from rfl]
  by_cases c1 : x = 40
  · rw [if_pos (by rw [c1]), if_pos c1]
  · rw [if_neg (by rw [iI_inj hx (by omega)]; exact c1), if_neg c1]
    by_cases c2 : x = 44
    · rw [if_pos (by rw [c2]), if_pos c2]
    · rw [if_neg (by rw [iI_inj hx (by omega)]; exact c2), if_neg c2]
      by_cases c3 : x = 41
      · rw [if_pos (by rw [c3]), if_pos c3]
      · rw [if_neg (by rw [iI_inj hx (by omega)]; exact c3), if_neg c3]
theorem l_step {M : MM} {L pos : Nat} {t : Nat → Int} (hL : L ≤ 60) (hp : pos < L) (h14 : ∀ i, i < L → M 14 i = iI (t i)) (ht : ∀ i, i < L → 32 ≤ t i ∧ t i ≤ 126) (f : Nat) : lp_X1_read_7 (f + 1) M 0 (iI L) (iI pos) = if dgP t pos then bnd2 (f_X1_readBell (up2 M 10 1 (iI pos)) 0 (iI (nuI t L pos))) (fun r M' => fCT f L r (pos + wdN t L pos) M') else bnd2 (fSG (up2 M 10 1 (iI pos)) (t pos)) (fun r M' => fCT f L r (pos + 1) M') := by
  have e1 : iI (pos : Int) + 1 = iI ((pos + 1 : Nat) : Int) := by rw [Z1, iI_add]; congr 1
  have e2 : iI (pos : Int) + 2 = iI ((pos + 2 : Nat) : Int) := by rw [Z2, iI_add]; congr 1
  have vp : vin (iI (pos : Int)) 60 := vinI (by omega) (by omega)
  have tp : (iI (pos : Int)).toNatClampNeg = pos := iI_lo (by omega)
  have r14 : up2 M 10 1 (iI (pos : Int)) 14 = M 14 := up2_gn (by omega)
  have hp' := h14 pos hp
  have htp := ht pos hp
  have c0 : (0 : Int32) = 0 := rfl
  have one : ∀ (B : Option (Int32 × MM)), B = f_X1_readSign (up2 M 10 1 (iI pos)) 0 (iI (t pos)) → ¬ twP t L pos → bnd2 B (fun r M' => fCT f L r (pos + 1) M') = if dgP t pos then bnd2 (f_X1_readBell (up2 M 10 1 (iI pos)) 0 (iI (nuI t L pos))) (fun r M' => fCT f L r (pos + wdN t L pos) M') else bnd2 (fSG (up2 M 10 1 (iI pos)) (t pos)) (fun r M' => fCT f L r (pos + 1) M') := by
    intro B hB htw
    rw [hB]
    by_cases d : dgP t pos
    · rw [if_pos d, e_signD d]
      unfold nuI wdN
      rw [if_neg htw, if_neg htw]
    · rw [if_neg d, e_signN (by omega) d]
  unfold lp_X1_read_7
  rw [if_neg (by rw [iI_le (by omega) (by omega)]; omega), letB_e, e1]
  by_cases c : L ≤ pos + 1
  · rw [if_pos (by rw [iI_le (by omega) (by omega)]; omega), if_pos c0, if_pos vp]
    simp only [tp, r14, hp']
    exact one _ rfl (fun q => by omega)
  · have vp1 : vin (iI ((pos + 1 : Nat) : Int)) 60 := vinI (by omega) (by omega)
    have tp1 : (iI ((pos + 1 : Nat) : Int)).toNatClampNeg = pos + 1 := iI_lo (by omega)
    have hp1 := h14 (pos + 1) (by omega)
    have htp1 := ht (pos + 1) (by omega)
    rw [if_neg (by rw [iI_le (by omega) (by omega)]; omega), if_pos vp]
    simp only [tp, r14, hp']
    rw [e_dig (by omega), bnd2_s]
    by_cases d : dgP t pos
    · rw [ify d, if_pos vp1]
      simp only [tp1, r14, hp1]
      rw [e_dig (by omega), bnd2_s]
      by_cases d2 : dgP t (pos + 1)
      · have htw : twP t L pos := ⟨by omega, d2⟩
        rw [ify d2, if_neg (by decide), if_pos vp]
        simp only [tp, r14, hp', f_X1_digit, bnd2_s]
        rw [if_pos vp1]
        simp only [tp1, r14, hp1]
        rw [if_pos d]
        unfold nuI wdN
        rw [if_pos htw, if_pos htw, Z10, show (48 : Int32) = iI 48 from rfl, iI_sub, iI_sub, iI_mul, iI_add, e2]
        rfl
      · rw [ifn d2, if_pos trivial, if_pos vp, r14, hp']
        exact one _ rfl (fun q => d2 q.2)
    · rw [ifn d, if_pos trivial, if_pos vp, if_neg d, r14, hp', e_signN (by omega) d]
      rfl
theorem l_end {M : MM} {L : Nat} (hL : L ≤ 60) {ex : Nat} (he : ex ≤ 3) (h0 : M 10 0 = iI ex) (f : Nat) : lp_X1_read_7 (f + 1) M 0 (iI L) (iI L) = some ((), up2 (up2 M 10 1 (iI L)) 10 2 (if ex = 3 then 0 else 4)) := by
  unfold lp_X1_read_7
  rw [if_pos (by rw [iI_le (by omega) (by omega)]; omega), letB_e, up2_in 10 (show 0 ≠ 1 by omega), h0]
  by_cases c : ex = 3
  · rw [if_pos (by rw [c]; rfl), letB_e, if_pos c]
  · rw [if_neg (by rw [Z3, iI_inj (by omega) (by omega)]; omega), letB_e, if_neg c]
end
