section
/-! Frames: what the reference does when a frame is whole. -/
theorem r_rest_done {N : MM} {L : Nat} {t : Nat → Int} (h : fTX N L t) (h18 : N 20 18 = iI L) (h15 : N 20 15 = iI ((0 : Nat) : Int)) (f f2 : Nat) : fRC (f + 1) (f2 + 1) N = some (1, N) := by
  unfold fRC
  rw [lp_X11_takesRest_0]
  rw [h15, if_pos (by decide), h18, h.1, if_pos rfl, bnd2_s, if_neg (by decide), h15, if_pos (by decide), lp_X11_reads_37]
  rw [if_pos rfl]
theorem r_rest_more {N : MM} {L pos : Nat} {t : Nat → Int} (hL : L ≤ 60) (h : fTX N L t) (hp : pos < L) (h18 : N 20 18 = iI pos) (h15 : N 20 15 = iI ((0 : Nat) : Int)) (f f2 : Nat) : fRC f (f2 + 1) N = some (0, up2 N 20 19 1) := by
  unfold fRC
  rw [lp_X11_takesRest_0]
  rw [h15, if_pos (by decide), h18, h.1, if_neg (by rw [iI_inj (by omega) (by omega)]; omega)]
  rfl
theorem r_rest_end {N : MM} {L i0 : Nat} {t : Nat → Int} {b : Nat} (hL : L ≤ 60) (h : fTX N L t) (h18 : N 20 18 = iI L) (h15 : N 20 15 = iI ((i0 + 1 : Nat) : Int)) (hi : i0 < 5) (f f2 : Nat) : fRC f (f2 + 1) N = some (0, up2 N 20 19 4) := by
  have vo : vin (iI ((i0 + 1 : Nat) : Int)) 6 := vinI (by omega) (by omega)
  unfold fRC
  rw [lp_X11_takesRest_0]
  rw [h15, if_neg (by rw [Z0, iI_le (by omega) (by omega)]; omega), h18, h.1, if_pos (by rw [iI_le (by omega) (by omega)]; omega), if_pos vo]
  by_cases c : N 31 (iI ((i0 + 1 : Nat) : Int)).toNatClampNeg = 0
  · rw [if_pos c, if_neg (by decide), if_neg (by decide)]; rfl
  · rw [if_neg c, if_neg (by decide), if_neg (by decide)]; rfl
theorem r_rest_bad {N : MM} {L pos i0 bc0 : Nat} {t : Nat → Int} (hL : L ≤ 60) (h : fTX N L t) (ht : ∀ i, i < L → 32 ≤ t i ∧ t i ≤ 126) (hp : pos < L) (h18 : N 20 18 = iI pos) (h15 : N 20 15 = iI ((i0 + 1 : Nat) : Int)) (hi : i0 < 5) (h31 : N 31 (i0 + 1) = iI (bc0 : Int)) (hbc : bc0 ≤ 1) (hno : (bc0 = 0 → t pos ≠ 44) ∧ (bc0 = 1 → t pos ≠ 41)) (f f2 : Nat) : fRC f (f2 + 1) N = some (0, up2 N 20 19 1) := by
  have vo : vin (iI ((i0 + 1 : Nat) : Int)) 6 := vinI (by omega) (by omega)
  have to : (iI ((i0 + 1 : Nat) : Int)).toNatClampNeg = i0 + 1 := iI_lo (by omega)
  have vp : vin (iI (pos : Int)) 60 := vinI (by omega) (by omega)
  have tp : (iI (pos : Int)).toNatClampNeg = pos := iI_lo (by omega)
  have htp := ht pos hp
  unfold fRC
  rw [lp_X11_takesRest_0]
  rw [h15, if_neg (by rw [Z0, iI_le (by omega) (by omega)]; omega), h18, h.1, if_neg (by rw [iI_le (by omega) (by omega)]; omega), if_pos vp, if_pos vo]
  simp only [to, tp, h31, h.2 pos hp]
  by_cases c : bc0 = 0
  · rw [if_pos (by rw [c]; rfl), if_neg (by rw [show (44 : Int32) = iI 44 from rfl, iI_inj (by omega) (by omega)]; exact hno.1 c), if_pos (by rw [Z0, iI_le (by omega) (by omega)]; omega)]
    rfl
  · rw [if_neg (by rw [Z0, iI_inj (by omega) (by omega)]; omega), if_neg (by rw [show (41 : Int32) = iI 41 from rfl, iI_inj (by omega) (by omega)]; exact hno.2 (by omega)), if_pos (by rw [Z0, iI_le (by omega) (by omega)]; omega)]
    rfl
theorem r_rest_comma {N : MM} {a : Nat → Int} {L pos i0 mn bm ds : Nat} {sl : Int} {t : Nat → Int} {hb dp c bc : Nat → Nat} (hL : L ≤ 60) (h : fTX N L t) (hp : pos < L) (h44 : t pos = 44) (hr : frI N a 1 pos (i0 + 1) mn bm ds sl hb dp c bc) (g : fgI a 1 pos (i0 + 1) mn bm ds sl hb dp c bc) (f f2 : Nat) : ∃ N1, fRC f (f2 + 1) N = lp_X11_reads_37 f N1 1 ∧ RFr N N1 ∧ frI N1 a 0 (pos + 1) (i0 + 1) mn bm ds sl hb dp (uN1 c (i0 + 1) mn) (uN1 bc i0 1) := by
  obtain ⟨⟨h1, h2, h3, h4, h5, h6⟩, h7, h8, h9⟩ := hr
  obtain ⟨⟨g1, g2, g3, g4, g5, g6, g7, g8⟩, -, -, g11, g12, g13, g14, -⟩ := g
  have hbc0 : bc i0 = 0 := (g14 rfl).2
  have hc0 : c (i0 + 1) = c i0 := (g12 i0 (by omega)).2 hbc0
  have vo : vin (iI ((i0 + 1 : Nat) : Int)) 6 := vinI (by omega) (by omega)
  have to : (iI ((i0 + 1 : Nat) : Int)).toNatClampNeg = i0 + 1 := iI_lo (by omega)
  have vp : vin (iI (pos : Int)) 60 := vinI (by omega) (by omega)
  have tp : (iI (pos : Int)).toNatClampNeg = pos := iI_lo (by omega)
  have ep : iI (pos : Int) + 1 = iI ((pos + 1 : Nat) : Int) := by rw [Z1, iI_add]; congr 1
  have h31 : N 31 (i0 + 1) = 0 := by rw [(h8 i0 (by omega)).1, hbc0]; rfl
  have h20 := h9 (by omega)
  obtain ⟨N1, hN1⟩ : ∃ N1, N1 = up2 (up2 (up2 N 20 18 (iI ((pos + 1 : Nat) : Int))) 31 (i0 + 1) 1) 30 (i0 + 1) (iI (sm (fwt a hb) mn - sm (fwt a hb) (c (i0 + 1)))) := ⟨_, rfl⟩
  have a15 : ∀ x : Int32, up2 N 20 18 x 20 15 = iI ((i0 + 1 : Nat) : Int) := fun x => by rw [up2_in _ (by omega)]; exact h6
  have a31 : ∀ x : Int32, up2 N 20 18 x 31 (i0 + 1) = 0 := fun x => by rw [up2_gn (by omega)]; exact h31
  have b15 : ∀ x : Int32, up2 (up2 N 20 18 x) 31 (i0 + 1) 1 20 15 = iI ((i0 + 1 : Nat) : Int) := fun x => by rw [up2_gn (by omega)]; exact a15 x
  have b20 : ∀ x : Int32, up2 (up2 N 20 18 x) 31 (i0 + 1) 1 20 20 = iI (sm (fwt a hb) mn - sm (fwt a hb) (c (i0 + 1))) := fun x => by rw [up2_gn (by omega), up2_in _ (by omega)]; exact h20
  have c15 : N1 20 15 = iI ((i0 + 1 : Nat) : Int) := by rw [hN1, up2_gn (by omega)]; exact b15 _
  refine ⟨N1, ?_, ?_, ?_⟩
  · unfold fRC
    rw [lp_X11_takesRest_0]
    rw [h6, if_neg (by rw [Z0, iI_le (by omega) (by omega)]; omega), h1, h.1, if_neg (by rw [iI_le (by omega) (by omega)]; omega), if_pos vp, if_pos vo]
    simp only [to, tp, h31, h.2 pos hp]
    rw [if_pos trivial, if_pos (by rw [h44]; rfl), ep, letB_e, a15, if_pos vo]
    simp only [to, a31]
    rw [if_pos trivial, if_pos vo, letB_e, b15, if_pos vo]
    simp only [to, b20, letB_e, ← hN1, bnd2_s]
    rw [if_neg (by decide), c15, if_neg (by rw [Z0, iI_le (by omega) (by omega)]; omega)]
  · rw [hN1]
    exact (((RFr.refl N).up _ (by omega)).up _ (by omega)).up _ (by omega)
  · rw [hN1]
    refine ⟨⟨?_, ?_, ?_, ?_, ?_, ?_⟩, fun k hk => ?_, fun i hi => ?_, fun he => absurd rfl he⟩
    · rw [up2_gn (by omega), up2_gn (by omega), up2_eq]
    · rw [up2_gn (by omega), up2_gn (by omega), up2_in _ (by omega)]; exact h2
    · rw [up2_gn (by omega), up2_gn (by omega), up2_in _ (by omega)]; exact h3
    · rw [up2_gn (by omega), up2_gn (by omega), up2_in _ (by omega)]; exact h4
    · rw [up2_gn (by omega), up2_gn (by omega), up2_in _ (by omega)]; exact h5
    · rw [up2_gn (by omega), up2_gn (by omega), up2_in _ (by omega)]; exact h6
    · rw [up2_gn (g' := 28) (by omega), up2_gn (g' := 28) (by omega), up2_gn (g' := 28) (by omega), up2_gn (g' := 29) (by omega), up2_gn (g' := 29) (by omega), up2_gn (g' := 29) (by omega)]
      exact h7 k hk
    · rw [up2_gn (g' := 31) (by omega), up2_gr, up2_gn (g' := 31) (by omega), up2_gr, up2_gn (g' := 30) (by omega), up2_gn (g' := 30) (by omega)]
      by_cases e : i = i0
      · rw [e, upd_s, upd_s, uN1_s, uN1_s, uN1_n (by omega), ← hc0]
        exact ⟨rfl, fun _ => rfl⟩
      · rw [upd_n (by omega), upd_n (by omega), uN1_n e, uN1_n (show i + 1 ≠ i0 + 1 by omega), uN1_n (show i ≠ i0 + 1 by omega)]
        exact h8 i hi
theorem r_rest_close {N : MM} {a : Nat → Int} {L pos i0 mn bm ds : Nat} {sl : Int} {t : Nat → Int} {hb dp c bc : Nat → Nat} (hL : L ≤ 60) (h : fTX N L t) (hp : pos < L) (h41 : t pos = 41) (hr : frI N a 2 pos (i0 + 1) mn bm ds sl hb dp c bc) (g : fgI a 2 pos (i0 + 1) mn bm ds sl hb dp c bc) (hF : 0 ≤ sm (fwt a hb) (c (i0 + 1)) - sm (fwt a hb) (c i0) ∧ sm (fwt a hb) (c (i0 + 1)) - sm (fwt a hb) (c i0) ≤ 400000) (hW : 0 ≤ sm (fwt a hb) mn - sm (fwt a hb) (c (i0 + 1)) ∧ sm (fwt a hb) mn - sm (fwt a hb) (c (i0 + 1)) ≤ 400000) (f f2 : Nat) : ∃ N1, fRC f (f2 + 1) N = fRC f f2 N1 ∧ RFr N N1 ∧ ∀ ex, frI N1 a ex (pos + 1) i0 mn bm ds (mxI sl (abI ((sm (fwt a hb) (c (i0 + 1)) - sm (fwt a hb) (c i0)) - (sm (fwt a hb) mn - sm (fwt a hb) (c (i0 + 1)))))) hb dp c bc := by
  obtain ⟨⟨h1, h2, h3, h4, h5, h6⟩, h7, h8, h9⟩ := hr
  obtain ⟨⟨g1, g2, g3, g4, g5, g6, g7, g8⟩, -, -, g11, g12, g13, g14, g15, -⟩ := g
  have hbc1 : bc i0 = 1 := (g15 rfl).2
  obtain ⟨F0, hF0⟩ : ∃ F0, F0 = sm (fwt a hb) (c (i0 + 1)) - sm (fwt a hb) (c i0) := ⟨_, rfl⟩
  obtain ⟨W0, hW0⟩ : ∃ W0, W0 = sm (fwt a hb) mn - sm (fwt a hb) (c (i0 + 1)) := ⟨_, rfl⟩
  have h30 := (h8 i0 (by omega)).2 hbc1
  have h20 := h9 (by omega)
  rw [← hF0] at h30 hF ⊢
  rw [← hW0] at h20 hW ⊢
  have vo : vin (iI ((i0 + 1 : Nat) : Int)) 6 := vinI (by omega) (by omega)
  have to : (iI ((i0 + 1 : Nat) : Int)).toNatClampNeg = i0 + 1 := iI_lo (by omega)
  have vp : vin (iI (pos : Int)) 60 := vinI (by omega) (by omega)
  have tp : (iI (pos : Int)).toNatClampNeg = pos := iI_lo (by omega)
  have ep : iI (pos : Int) + 1 = iI ((pos + 1 : Nat) : Int) := by rw [Z1, iI_add]; congr 1
  have eo : iI ((i0 + 1 : Nat) : Int) - 1 = iI (i0 : Int) := by rw [Z1, iI_sub]; congr 1; omega
  have h31 : N 31 (i0 + 1) = 1 := by rw [(h8 i0 (by omega)).1, hbc1]; rfl
  obtain ⟨Na, hNa⟩ : ∃ Na, Na = up2 N 20 18 (iI ((pos + 1 : Nat) : Int)) := ⟨_, rfl⟩
  have a15 : Na 20 15 = iI ((i0 + 1 : Nat) : Int) := by rw [hNa, up2_in _ (by omega)]; exact h6
  have a14 : Na 20 14 = iI sl := by rw [hNa, up2_in _ (by omega)]; exact h5
  have a20 : Na 20 20 = iI W0 := by rw [hNa, up2_in _ (by omega)]; exact h20
  have a31 : Na 31 (i0 + 1) = 1 := by rw [hNa, up2_gn (by omega)]; exact h31
  have a30 : Na 30 (i0 + 1) = iI F0 := by rw [hNa, up2_gn (by omega)]; exact h30
  have b15 : ∀ x : Int32, up2 Na 20 14 x 20 15 = iI ((i0 + 1 : Nat) : Int) := fun x => by rw [up2_in _ (by omega)]; exact a15
  have b20 : ∀ x : Int32, up2 Na 20 14 x 20 20 = iI W0 := fun x => by rw [up2_in _ (by omega)]; exact a20
  have b30 : ∀ x : Int32, up2 Na 20 14 x 30 (i0 + 1) = iI F0 := fun x => by rw [up2_gn (by omega)]; exact a30
  have c15 : ∀ x y : Int32, up2 (up2 Na 20 14 x) 20 20 y 20 15 = iI ((i0 + 1 : Nat) : Int) := fun x y => by rw [up2_in _ (by omega)]; exact b15 x
  obtain ⟨sl', hsl'⟩ : ∃ sl', sl' = mxI sl (abI (F0 - W0)) := ⟨_, rfl⟩
  rw [← hsl']
  obtain ⟨N1, hN1⟩ : ∃ N1, N1 = up2 (up2 (up2 Na 20 14 (iI sl')) 20 20 (iI (W0 + F0))) 20 15 (iI (i0 : Int)) := ⟨_, rfl⟩
  refine ⟨N1, ?_, ?_, fun ex => ?_⟩
  · unfold fRC
    congr 1
    rw [lp_X11_takesRest_0]
    rw [h6, if_neg (by rw [Z0, iI_le (by omega) (by omega)]; omega), h1, h.1, if_neg (by rw [iI_le (by omega) (by omega)]; omega), if_pos vp, if_pos vo]
    simp only [to, tp, h31, h.2 pos hp]
    rw [if_neg (by decide), if_pos (by rw [h41]; rfl), ep, letB_e, ← hNa, a15, if_pos vo]
    simp only [to, a31]
    rw [if_neg (by decide), if_pos vo, a20, a30, iI_sub, a14]
    have fin : ∀ x : Int32, x = iI sl' → (letB (up2 Na 20 14 x) fun M1065 => (if vin (M1065 20 15) 6 then (letB (up2 M1065 20 20 ((M1065 20 20) + (M1065 30 (M1065 20 15 : Int32).toNatClampNeg))) fun M1067 => (letB (up2 M1067 20 15 ((M1067 20 15) - (1))) fun M1068 => (lp_X11_takesRest_0 f2 M1068))) else none)) = lp_X11_takesRest_0 f2 N1 := by
      intro x hx
      subst hx
      rw [letB_e, b15, if_pos vo]
      simp only [to, b20, b30, iI_add, letB_e, c15, eo, ← hN1]
    by_cases s : 0 ≤ W0 - F0
    · have hab : abI (F0 - W0) = W0 - F0 := by unfold abI; split <;> omega
      rw [if_pos (by rw [Z0, iI_le (by omega) (by omega)]; exact s)]
      by_cases q : W0 - F0 ≤ sl
      · rw [if_pos (by rw [iI_le (by omega) (by omega)]; exact q)]
        exact fin _ (by rw [hsl', hab]; unfold mxI; rw [if_neg (by omega)])
      · rw [if_neg (by rw [iI_le (by omega) (by omega)]; exact q)]
        exact fin _ (by rw [hsl', hab]; unfold mxI; rw [if_pos (by omega)])
    · have hab : abI (F0 - W0) = -(W0 - F0) := by unfold abI; split <;> omega
      rw [if_neg (by rw [Z0, iI_le (by omega) (by omega)]; exact s), iI_neg]
      by_cases q : -(W0 - F0) ≤ sl
      · rw [if_pos (by rw [iI_le (by omega) (by omega)]; exact q)]
        exact fin _ (by rw [hsl', hab]; unfold mxI; rw [if_neg (by omega)])
      · rw [if_neg (by rw [iI_le (by omega) (by omega)]; exact q)]
        exact fin _ (by rw [hsl', hab]; unfold mxI; rw [if_pos (by omega)])
  · rw [hN1, hNa]
    exact ((((RFr.refl N).up _ (by omega)).up _ (by omega)).up _ (by omega)).up _ (by omega)
  · rw [hN1]
    refine ⟨⟨?_, ?_, ?_, ?_, ?_, ?_⟩, fun k hk => ?_, fun i hi => ?_, fun _ => ?_⟩
    · rw [up2_in _ (by omega), up2_in _ (by omega), up2_in _ (by omega), hNa, up2_eq]
    · rw [up2_in _ (by omega), up2_in _ (by omega), up2_in _ (by omega), hNa, up2_in _ (by omega)]; exact h2
    · rw [up2_in _ (by omega), up2_in _ (by omega), up2_in _ (by omega), hNa, up2_in _ (by omega)]; exact h3
    · rw [up2_in _ (by omega), up2_in _ (by omega), up2_in _ (by omega), hNa, up2_in _ (by omega)]; exact h4
    · rw [up2_in _ (by omega), up2_in _ (by omega), up2_eq]
    · rw [up2_eq]
    · rw [up2_gn (g' := 28) (by omega), up2_gn (g' := 28) (by omega), up2_gn (g' := 28) (by omega), up2_gn (g' := 29) (by omega), up2_gn (g' := 29) (by omega), up2_gn (g' := 29) (by omega), hNa, up2_gn (g' := 28) (by omega), up2_gn (g' := 29) (by omega)]
      exact h7 k hk
    · rw [up2_gn (g' := 31) (by omega), up2_gn (g' := 31) (by omega), up2_gn (g' := 31) (by omega), up2_gn (g' := 30) (by omega), up2_gn (g' := 30) (by omega), up2_gn (g' := 30) (by omega), hNa, up2_gn (g' := 31) (by omega), up2_gn (g' := 30) (by omega)]
      exact h8 i (by omega)
    · rw [up2_in _ (by omega), up2_eq]
      congr 1; omega
end
