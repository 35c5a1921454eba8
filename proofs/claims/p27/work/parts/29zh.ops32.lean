section
/-! Frames: the class closes a beam; one step of its reading. -/
def abI (d : Int) : Int := if 0 ≤ d then d else -d
theorem jm_p : ∀ D1 : Nat, D1 < 6 → ∀ D2 : Nat, D2 < 6 → jmax (iI ((2 : Int) ^ D1)) (iI ((2 : Int) ^ D2)) = iI ((2 : Int) ^ mxN D1 D2) := by decide
theorem twice_p (E : Nat) : iI 2 * iI ((2 : Int) ^ E) = iI ((2 : Int) ^ (E + 1)) := by
  rw [iI_mul, Int.pow_succ, Int.mul_comm]
theorem c_close {k : Int} {M : MM} {a : Nat → Int} (hB : ∀ b, b < (a 52).toNat → BB k a b) {pos i0 mn bm ds : Nat} {sl : Int} {hb dp c bc : Nat → Nat} (h : fcI M a 2 (i0 + 1) mn bm ds sl hb dp c bc) (g : fgI a 2 pos (i0 + 1) mn bm ds sl hb dp c bc) (hL : pos < 60) : ∃ M1, f_X1_closeBeam M = some (0, M1) ∧ CFr M M1 ∧ fcI M1 a (exN i0 bc) i0 mn bm ds (mxI sl (abI ((sm (fwt a hb) (c (i0 + 1)) - sm (fwt a hb) (c i0)) - (sm (fwt a hb) mn - sm (fwt a hb) (c (i0 + 1)))))) hb dp c bc ∧ (0 ≤ sm (fwt a hb) (c (i0 + 1)) - sm (fwt a hb) (c i0) ∧ sm (fwt a hb) (c (i0 + 1)) - sm (fwt a hb) (c i0) ≤ 400000) ∧ (0 ≤ sm (fwt a hb) mn - sm (fwt a hb) (c (i0 + 1)) ∧ sm (fwt a hb) mn - sm (fwt a hb) (c (i0 + 1)) ≤ 400000) := by
  obtain ⟨⟨h1, h2, h3, h4, h6, h7⟩, h8, h9, h10, h11⟩ := h
  obtain ⟨⟨g1, g2, g3, g4, g5, g6, g7, g8⟩, g9, -, g11, g12, g13, g14, g15, g16⟩ := g
  rw [if_neg (by omega)] at g8
  have hbc1 : bc i0 = 1 := (g15 rfl).2
  have hwt : ∀ k, k < mn → 0 ≤ wgt a (hb k) ∧ wgt a (hb k) ≤ 10000 := fun k hk => by
    have B := hB (hb k) (g9 k hk).1
    unfold BB at B
    show 0 ≤ a (54 + 8 * hb k) + a (55 + 8 * hb k) ∧ a (54 + 8 * hb k) + a (55 + 8 * hb k) ≤ 10000
    omega
  have hc1 := g13 (i0 + 1) (by omega)
  obtain ⟨l1, V1, D1, l2, l3, l4⟩ := h9 i0 (by omega) hbc1
  obtain ⟨m1, V2, D2, m2, m3, m4⟩ := h10 (by omega)
  have w1 := sm_b (f := fwt a hb) (x := c i0) (y := c (i0 + 1)) (by have := l4.1; omega) (fun k k1 k2 => hwt k (by omega))
  have w2 := sm_b (f := fwt a hb) (x := c (i0 + 1)) (y := mn) hc1 (fun k k1 k2 => hwt k (by omega))
  have v1 := LVL_b l4 (fun k k1 k2 => hwt k (by omega))
  have v2 := LVL_b m4 (fun k k1 k2 => hwt k (by omega))
  have d1 : D1 ≤ 4 := by
    obtain ⟨q, q1, q2, q3⟩ := l4.2.2.1
    have := (g9 q (by omega)).2.2
    omega
  have d2 : D2 ≤ 4 := by
    obtain ⟨q, q1, q2, q3⟩ := m4.2.2.1
    have := (g9 q (by omega)).2.2
    omega
  have hE : mxN D1 D2 ≤ 4 := by unfold mxN; split <;> omega
  have p1 := (p2_7 D1 (by omega)).1
  have p2 := (p2_7 D2 (by omega)).1
  have hV : 0 ≤ mxI V1 V2 ∧ mxI V1 V2 ≤ 640000 := by unfold mxI; split <;> omega
  have jV : jmax (iI V1) (iI V2) = iI (mxI V1 V2) := by rw [e_jmax (by omega) (by omega)]; rfl
  have hR := RU_ge (P := 2 ^ mxN D1 D2) (n := mxI V1 V2) (by have := p2pos (mxN D1 D2); omega)
  obtain ⟨F0, hF0⟩ : ∃ F0, F0 = sm (fwt a hb) (c (i0 + 1)) - sm (fwt a hb) (c i0) := ⟨_, rfl⟩
  obtain ⟨W0, hW0⟩ : ∃ W0, W0 = sm (fwt a hb) mn - sm (fwt a hb) (c (i0 + 1)) := ⟨_, rfl⟩
  rw [← hF0] at l1 w1 ⊢
  rw [← hW0] at m1 w2 ⊢
  have e : iI ((i0 + 1 : Nat) : Int) - 1 = iI (i0 : Int) := by rw [Z1, iI_sub]; congr 1; omega
  have v : vin (iI (i0 : Int)) 5 := vinI (by omega) (by omega)
  have t0 : (iI (i0 : Int)).toNatClampNeg = i0 := iI_lo (by omega)
  have js : jmax (iI sl) (jabs (iI F0 - iI W0)) = iI (mxI sl (abI (F0 - W0))) := by
    have ha : 0 ≤ abI (F0 - W0) ∧ abI (F0 - W0) ≤ 1000000 := by unfold abI; split <;> omega
    rw [iI_sub, e_jabs (by omega)]
    show jmax (iI sl) (iI (abI (F0 - W0))) = _
    rw [e_jmax (by omega) (by omega)]; rfl
  obtain ⟨M1, hM1⟩ : ∃ M1, M1 = up2 M 10 11 (iI (mxI sl (abI (F0 - W0)))) := ⟨_, rfl⟩
  obtain ⟨M2, hM2⟩ : ∃ M2, M2 = up2 (up2 (up2 M1 75 0 (iI (W0 + F0))) 75 1 (iI (2 * RU (2 ^ mxN D1 D2) (mxI V1 V2)))) 75 2 (iI (2 ^ (mxN D1 D2 + 1))) := ⟨_, rfl⟩
  have o1 : ∀ G, G ≠ 10 → M1 G = M G := fun G q => by rw [hM1, up2_gn q]
  have hbeam : f_X4_hangBeam M1 5 i0 = some ((), M2) := by
    have x0 : M1 (70 + 5) = M 75 := o1 75 (by omega)
    have x1 : M1 (70 + i0) = M (70 + i0) := o1 (70 + i0) (by omega)
    unfold f_X4_hangBeam
    rw [x0, x1, show M 75 0 = iI W0 from m1, show M 75 1 = iI V2 from m2, show M 75 2 = iI (2 ^ D2) from m3, l1, l2, l3, iI_add, letB_e, jm_p D1 (by omega) D2 (by omega), jV, e_ru (by omega) hV.1 (by omega), bnd2_s, letB_e, letB_e, Z2, iI_mul, twice_p, hM2]
  have w10 : ∀ i, M2 10 i = M1 10 i := fun i => by rw [hM2, up2_gn (by omega), up2_gn (by omega), up2_gn (by omega)]
  have w6 : M2 10 6 = iI ((i0 + 1 : Nat) : Int) := by rw [w10, hM1, up2_in _ (by omega)]; exact h2
  obtain ⟨M3, hM3⟩ : ∃ M3, M3 = up2 M2 10 6 (iI (i0 : Int)) := ⟨_, rfl⟩
  have z12 : M3 12 = M 12 := by rw [hM3, up2_gn (by omega), hM2, up2_gn (by omega), up2_gn (by omega), up2_gn (by omega), o1 12 (by omega)]
  have ee := c_endFrame (M := M3) (op := i0) (bc := bc) (by rw [hM3, up2_eq]) (by omega) (fun q => by rw [z12]; exact ⟨h8 _ (by omega), (g12 _ (by omega)).1⟩)
  have z10 : ∀ i, i ≠ 0 → i ≠ 6 → i ≠ 11 → up2 M3 10 0 (iI (exN i0 bc)) 10 i = M 10 i := fun i q1 q2 q3 => by
    rw [up2_in _ q1, hM3, up2_in _ q2, w10, hM1, up2_in _ q3]
  have zG : ∀ G, G ≠ 10 → G ≠ 75 → up2 M3 10 0 (iI (exN i0 bc)) G = M G := fun G q1 q2 => by
    rw [up2_gn q1, hM3, up2_gn q1, hM2, up2_gn q2, up2_gn q2, up2_gn q2, o1 G q1]
  refine ⟨up2 M3 10 0 (iI (exN i0 bc)), ?_, fun G q1 q2 q3 q4 => zG G q1 (by omega), ⟨⟨?_, ?_, ?_, ?_, ?_, ?_⟩, fun i hi => ?_, fun i hi hbc => ?_, fun _ => ?_, fun b' hb' => ?_⟩, by omega, by omega⟩
  · unfold f_X1_closeBeam
    rw [h1, if_pos (by rfl), h2, if_pos (by rw [Z1, iI_le (by omega) (by omega)]; omega), e, if_pos v, t0, h7, l1, show M (70 + 5) 0 = iI W0 from m1, js, letB_e, ← hM1, hbeam, bnd2_s, w6, e, letB_e, ← hM3, ee, bnd2_s]
  · rw [up2_eq]
  · rw [up2_in _ (by omega), hM3, up2_eq]
  · rw [z10 8 (by omega) (by omega) (by omega)]; exact h3
  · rw [z10 9 (by omega) (by omega) (by omega)]; exact h4
  · rw [z10 10 (by omega) (by omega) (by omega)]; exact h6
  · rw [up2_in _ (by omega), hM3, up2_in _ (by omega), w10, hM1, up2_eq]
  · rw [zG 12 (by omega) (by omega)]; exact h8 i (by omega)
  · exact (h9 i (by omega) hbc).congr (zG (70 + i) (by omega) (by omega))
  · refine ⟨?_, 2 * RU (2 ^ mxN D1 D2) (mxI V1 V2), mxN D1 D2 + 1, ?_, ?_, LVL_two l4 m4 rfl⟩
    · rw [up2_gn (by omega), hM3, up2_gn (by omega), hM2, up2_in _ (by omega), up2_in _ (by omega), up2_eq]
      congr 1; omega
    · rw [up2_gn (by omega), hM3, up2_gn (by omega), hM2, up2_in _ (by omega), up2_eq]
    · rw [up2_gn (by omega), hM3, up2_gn (by omega), hM2, up2_eq]
  · rw [zG 13 (by omega) (by omega)]; exact h11 b' hb'
theorem g_close {a : Nat → Int} {pos i0 mn bm ds : Nat} {sl sl' : Int} {hb dp c bc : Nat → Nat} (g : fgI a 2 pos (i0 + 1) mn bm ds sl hb dp c bc) (hs : 0 ≤ sl' ∧ sl' ≤ 1000000) : fgI a (exN i0 bc) (pos + 1) i0 mn bm ds sl' hb dp c bc := by
  obtain ⟨⟨g1, g2, g3, g4, g5, g6, g7, g8⟩, g9, g10, g11, g12, g13, g14⟩ := g
  rw [if_neg (by omega)] at g8
  have hex := exN_3 i0 bc
  refine ⟨⟨by omega, g2, by omega, hex.1, by omega, hs.1, hs.2, by rw [if_neg hex.2]; omega⟩, g9, Or.inl ?_, ⟨g11.1, fun q => absurd q hex.2⟩, fun i hi => g12 i (by omega), fun i hi => g13 i (by omega), fun q => ?_, fun q => ?_, fun q => ?_⟩
  · rcases g10 with h | ⟨h, _⟩
    · exact h
    · omega
  · unfold exN at q
    by_cases e : i0 = 0
    · rw [if_pos e] at q; omega
    · rw [if_neg e] at q
      by_cases e2 : bc (i0 - 1) = 0
      · exact ⟨by omega, e2⟩
      · rw [if_neg e2] at q; omega
  · unfold exN at q
    by_cases e : i0 = 0
    · rw [if_pos e] at q; omega
    · rw [if_neg e] at q
      by_cases e2 : bc (i0 - 1) = 0
      · rw [if_pos e2] at q; omega
      · have := (g12 (i0 - 1) (by omega)).1
        exact ⟨by omega, by omega⟩
  · unfold exN at q
    by_cases e : i0 = 0
    · exact e
    · rw [if_neg e] at q
      split at q <;> omega
theorem sl_b {sl F W : Int} (h : 0 ≤ sl ∧ sl ≤ 1000000) (hF : 0 ≤ F ∧ F ≤ 400000) (hW : 0 ≤ W ∧ W ≤ 400000) : 0 ≤ mxI sl (abI (F - W)) ∧ mxI sl (abI (F - W)) ≤ 1000000 := by
  have ha : 0 ≤ abI (F - W) ∧ abI (F - W) ≤ 400000 := by unfold abI; split <;> omega
  unfold mxI
  split <;> omega
end
