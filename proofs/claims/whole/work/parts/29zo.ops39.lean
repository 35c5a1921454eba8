section
/-! The call frame. -/
theorem l_added {k : Int} {N : MM} {a : Nat → Int} {L ds mn bm : Nat} {sl : Int} {hb dp c bc : Nat → Nat} (h21 : N 21 = iF a) (h52 : 0 ≤ a 52 ∧ a 52 ≤ 100) (hB : ∀ b, b < (a 52).toNat → BB k a b) (hr : frI N a 3 L 0 mn bm ds sl hb dp c bc) (g : fgI a 3 L 0 mn bm ds sl hb dp c bc) (hL : L ≤ 60) : ∀ (j fu z : Nat), z + j = mn → j < fu → lp_X11_added_14 fu N (iI (2 ^ ds)) (iI (mxv (vl a hb dp 0) z)) (iI (sm (fwt a hb) z)) (iI z) = some (iI (RU (2 ^ ds) (mxv (vl a hb dp 0) mn) - sm (fwt a hb) mn), N) := by
  obtain ⟨⟨h1, h2, h3, h4, h5, h6⟩, h7, h8, h9⟩ := hr
  obtain ⟨⟨g1, g2, g3, g4, g5, g6, g7, g8⟩, g9, -, -⟩ := g
  rw [if_neg (by omega)] at g8
  have p7 := p2_7 ds (by omega)
  have hp := p2pos ds
  have hw : ∀ k, k < mn → 0 ≤ wgt a (hb k) ∧ wgt a (hb k) ≤ 10000 := fun k hk => by
    have B := hB (hb k) (g9 k hk).1
    unfold BB at B
    show 0 ≤ a (54 + 8 * hb k) + a (55 + 8 * hb k) ∧ a (54 + 8 * hb k) + a (55 + 8 * hb k) ≤ 10000
    omega
  have hv : ∀ k, k < mn → 0 ≤ vl a hb dp 0 k ∧ vl a hb dp 0 k ≤ 320000 := fun k hk => by
    have w := hw k hk
    have p := p2pos (dp k - 0)
    have d5 := (g9 k hk).2.2
    have m : (2 : Int) ^ (dp k - 0) ≤ 2 ^ 5 := p2mono (by omega)
    have e5 : (2 : Int) ^ 5 = 32 := rfl
    unfold vl
    refine ⟨Int.mul_nonneg w.1 (by omega), ?_⟩
    have := Int.mul_le_mul w.2 m (by omega) (by omega)
    omega
  have hmx : ∀ z, z ≤ mn → 0 ≤ mxv (vl a hb dp 0) z ∧ mxv (vl a hb dp 0) z ≤ 320000 := fun z hz => ⟨mxv_nn z, (mxv_le (by omega) z).mpr (fun k hk => (hv k (by omega)).2)⟩
  have hsm : ∀ z, z ≤ mn → 0 ≤ sm (fwt a hb) z ∧ sm (fwt a hb) z ≤ 400000 := fun z hz => by
    have := sm_b (f := fwt a hb) (x := 0) (y := z) (by omega) (fun k _ k2 => hw k (by omega))
    have e0 : sm (fwt a hb) 0 = 0 := rfl
    rw [e0] at this
    omega
  intro j
  induction j with
  | zero =>
    intro fu z hz hf
    obtain ⟨f, rfl⟩ : ∃ f, fu = f + 1 := ⟨fu - 1, by omega⟩
    obtain rfl : z = mn := by omega
    have m1 := hmx z (Nat.le_refl _)
    have m2 := hsm z (Nat.le_refl _)
    have r1 : 0 ≤ (mxv (vl a hb dp 0) z + 2 ^ ds - 1) / 2 ^ ds := Int.ediv_nonneg (by omega) (by omega)
    unfold lp_X11_added_14 RU
    rw [h2, if_pos (by rw [iI_le (by omega) (by omega)]; omega), if_neg (by rw [Z0, iI_inj (by omega) (by omega)]; omega), iI_add, Z1, iI_sub, iI_div (by omega) (by omega) (by omega) (by omega), iI_mul, iI_sub]
  | succ j ih =>
    intro fu z hz hf
    obtain ⟨f, rfl⟩ : ∃ f, fu = f + 1 := ⟨fu - 1, by omega⟩
    have e1 : iI (z : Int) + 1 = iI ((z + 1 : Nat) : Int) := by rw [Z1, iI_add]; congr 1
    have vz : vin (iI (z : Int)) 30 := vinI (by omega) (by omega)
    have tz : (iI (z : Int)).toNatClampNeg = z := iI_lo (by omega)
    have w := hw z (by omega)
    have d5 := (g9 z (by omega)).2.2
    have hbz := (g9 z (by omega)).1
    have wt := r_weightB (M := N) (a := a) (j := hb z) (by omega)
    rw [RFe h21] at wt
    have es : iI (wgt a (hb z)) <<< (iI (dp z : Int) &&& 31) = iI (vl a hb dp 0 z) := shl_w w.1 w.2 (by omega)
    have m1 := hmx z (by omega)
    have v1 := hv z (by omega)
    have ih' := ih f (z + 1) (by omega) (by omega)
    have esm : sm (fwt a hb) (z + 1) = sm (fwt a hb) z + wgt a (hb z) := rfl
    have emx : mxv (vl a hb dp 0) (z + 1) = if vl a hb dp 0 z ≤ mxv (vl a hb dp 0) z then mxv (vl a hb dp 0) z else vl a hb dp 0 z := rfl
    rw [esm, emx] at ih'
    unfold lp_X11_added_14
    rw [h2, if_neg (by rw [iI_le (by omega) (by omega)]; omega), if_pos vz]
    simp only [tz, (h7 z (show z < mn by omega)).1, (h7 z (show z < mn by omega)).2]
    rw [r_atBell, bnd2_s, wt, bnd2_s, if_pos vz, (h7 z (by omega)).2, es, iI_add, e1]
    by_cases q : vl a hb dp 0 z ≤ mxv (vl a hb dp 0) z
    · rw [if_pos q] at ih'
      rw [if_pos (by rw [iI_le (by omega) (by omega)]; exact q)]
      exact ih'
    · rw [if_neg q] at ih'
      rw [if_neg (by rw [iI_le (by omega) (by omega)]; exact q), if_pos vz]
      exact ih'
theorem lev_eq {a : Nat → Int} {L ds mn bm D : Nat} {sl V : Int} {hb dp c bc : Nat → Nat} (g : fgI a 3 L 0 mn bm ds sl hb dp c bc) (h : LVL a hb dp 0 mn 0 V D) (hw : ∀ k, k < mn → 0 ≤ wgt a (hb k)) : D = ds ∧ RU (2 ^ ds) (mxv (vl a hb dp 0) mn) = V := by
  obtain ⟨⟨g1, g2, g3, g4, g5, g6, g7, g8⟩, g9, g10, -⟩ := g
  obtain ⟨h1, h2, ⟨k1, k2, k3, k4⟩, h4, h5⟩ := h
  have hD : D = ds := by
    rcases g10 with ⟨q, q1, q2⟩ | ⟨q, _⟩
    · have a1 := (h2 q (by omega) q1).2.1
      have a2 := (g9 k1 k3).2.2
      omega
    · omega
  subst hD
  have hp := p2pos D
  have hV : 0 ≤ V := by
    have a1 := (h2 k1 k2 k3).2.2
    have a2 : 0 ≤ vl a hb dp 0 k1 := Int.mul_nonneg (hw k1 k3) (by have := p2pos (dp k1 - 0); omega)
    omega
  refine ⟨rfl, RU_un (by omega) h4 ((mxv_le hV mn).mpr (fun k hk => (h2 k (by omega) hk).2.2)) (fun q hq hle => h5 q hq (fun k _ hk => ?_))⟩
  have hm := (mxv_le (f := vl a hb dp 0) (mxv_nn mn) mn).mp (Int.le_refl _) k hk
  omega
theorem o_frame {k : Int} (x : Int32) : CALL k (fun M => f_X10_frame M x) (fun M => f_X11_frame M x) := by
  intro M a n H L t vc vr vb
  obtain ⟨X, hX, rfl⟩ := ofI x
  have hL := vb.2.2.2.1
  have hM := vb.1.1
  unfold BM at hM
  have hB := vb.1.2.2.2.1
  by_cases hx : 0 ≤ X ∧ X ≤ 5
  · obtain ⟨M1, k1, f1, cont⟩ := both_read vb vc
    have vc1 := vc.cfr f1
    have vr1 := vr.congr f1.FC
    obtain ⟨rr, N1, q1, q2, q3⟩ := cont M1 vr1
    have vcN := vc1.congr q2.FR
    have vrN := vr1.rfr q2
    have hc1 : f_X10_frame M (iI X) = (if (M1 10 2 : Int32) = 0 then (bnd2 (f_X1_tell M1 (iI X)) fun r9 M10 => some (r9, M10)) else some (-2, M1)) := by
      unfold f_X10_frame
      rw [e_inL 0 5 hX Z0 Z5 (by omega) (by omega), bnd2_s, ify hx, vc.2.2.1, k1, bnd2_s]
    have hr1 : f_X11_frame M1 (iI X) = (if (rr : Int32) = 0 then some (-2, N1) else (if (iI X : Int32) = 0 then some (N1 20 20, N1) else (if (iI X : Int32) = (1 : Int32) then some (N1 20 11, N1) else (if (iI X : Int32) = (2 : Int32) then some (N1 20 12, N1) else (if (iI X : Int32) = (3 : Int32) then some (N1 20 13, N1) else (if (iI X : Int32) = (4 : Int32) then some (N1 20 14, N1) else (bnd2 (f_X11_added N1) fun r14 M15 => some (r14, M15)))))))) := by
      unfold f_X11_frame
      rw [r_inL 0 5 hX Z0 Z5 (by omega) (by omega), bnd2_s, ify hx, q1, bnd2_s]
    rcases q3 with ⟨s1, s2, -⟩ | ⟨s1, s2, mn, bm, ds, sl, hb, dp, c, bc, g, hc, hr⟩
    · exact ⟨-2, M1, N1, a, n, H, L, t, by show f_X10_frame M (iI X) = _; rw [hc1, if_neg s2], by show f_X11_frame M1 (iI X) = _; rw [hr1, if_pos s1], vcN, vrN, vb.succ⟩
    · obtain ⟨l1, V, D, l2, l3, l4⟩ := hc.2.2.2.1 (by omega)
      have hc0 : c 0 = 0 := g.2.2.2.1.1
      have hw : ∀ k, k < mn → 0 ≤ wgt a (hb k) := fun k hk => by
        have B := hB (hb k) (g.2.1 k hk).1
        unfold BB at B
        show 0 ≤ a (54 + 8 * hb k) + a (55 + 8 * hb k)
        omega
      rw [hc0] at l4
      obtain ⟨hD, hR⟩ := lev_eq g l4 hw
      have e0 : sm (fwt a hb) (c 0) = 0 := by rw [hc0]; rfl
      have eN20 : N1 20 20 = M1 75 0 := by rw [hr.2.2.2 (by omega)]; exact l1.symm
      have la := l_added vrN.1 (by omega) hB hr g hL mn FU 0 (by omega) (by have := g.1.2.2.2.2.2.2.2; unfold FU; split at this <;> omega)
      have lad : f_X11_added N1 = some (M1 75 1 - M1 75 0, N1) := by
        unfold f_X11_added
        rw [hr.1.2.2.2.1, shl_1 ds (by have := g.1.2.1; omega), (p2_7 ds (by have := g.1.2.1; omega)).2]
        have e := la
        rw [hR] at e
        rw [show M1 75 1 = iI V from l2, show M1 75 0 = iI (sm (fwt a hb) mn - sm (fwt a hb) (c 0)) from l1, e0, Int.sub_zero, iI_sub]
        exact e
      have out : ∀ r : Int32, f_X1_tell M1 (iI X) = some (r, M1) → f_X11_frame M1 (iI X) = some (r, N1) → ∃ r M1 M2 a' n' H' L' t', (fun M => f_X10_frame M (iI X)) M = some (r, M1) ∧ (fun M => f_X11_frame M (iI X)) M1 = some (r, M2) ∧ VC M2 a' n' H' L' t' ∧ VR M2 a' n' H' L' t' ∧ VB (k + 1) a' n' H' L' t' := fun r h1 h2 =>
        ⟨r, M1, N1, a, n, H, L, t, by show f_X10_frame M (iI X) = _; rw [hc1, if_pos s2, h1, bnd2_s], h2, vcN, vrN, vb.succ⟩
      rw [if_neg (by rw [s1]; decide)] at hr1
      obtain ⟨c1, c2, c3, c4, c5, c6⟩ := hc.1
      obtain ⟨d1, d2, d3, d4, d5, d6⟩ := hr.1
      by_cases x0 : X = 0
      · subst x0
        exact out (M1 75 0) (by unfold f_X1_tell; rw [if_pos (by rfl)]) (by rw [hr1, if_pos (by rfl), eN20])
      have n0 : ¬ iI X = 0 := by rw [Z0, iI_inj (by omega) (by omega)]; exact x0
      by_cases x1 : X = 1
      · subst x1
        exact out (M1 10 8) (by unfold f_X1_tell; rw [if_neg n0, if_pos (by rfl)]) (by rw [hr1, if_neg n0, if_pos (by rfl), d2, c3])
      have n1 : ¬ iI X = 1 := by rw [Z1, iI_inj (by omega) (by omega)]; exact x1
      by_cases x2 : X = 2
      · subst x2
        exact out (M1 10 9) (by unfold f_X1_tell; rw [if_neg n0, if_neg n1, if_pos (by rfl)]) (by rw [hr1, if_neg n0, if_neg n1, if_pos (by rfl), d3, c4])
      have n2 : ¬ iI X = 2 := by rw [Z2, iI_inj (by omega) (by omega)]; exact x2
      by_cases x3 : X = 3
      · subst x3
        exact out (M1 10 10) (by unfold f_X1_tell; rw [if_neg n0, if_neg n1, if_neg n2, if_pos (by rfl)]) (by rw [hr1, if_neg n0, if_neg n1, if_neg n2, if_pos (by rfl), d4, c5])
      have n3 : ¬ iI X = 3 := by rw [Z3, iI_inj (by omega) (by omega)]; exact x3
      by_cases x4 : X = 4
      · subst x4
        exact out (M1 10 11) (by unfold f_X1_tell; rw [if_neg n0, if_neg n1, if_neg n2, if_neg n3, if_pos (by rfl)]) (by rw [hr1, if_neg n0, if_neg n1, if_neg n2, if_neg n3, if_pos (by rfl), d5, c6])
      have n4 : ¬ iI X = 4 := by rw [Z4, iI_inj (by omega) (by omega)]; exact x4
      exact out (M1 75 1 - M1 75 0) (by unfold f_X1_tell; rw [if_neg n0, if_neg n1, if_neg n2, if_neg n3, if_neg n4]) (by rw [hr1, if_neg n0, if_neg n1, if_neg n2, if_neg n3, if_neg n4, lad, bnd2_s])
  · refine ⟨-1, M, M, a, n, H, L, t, ?_, ?_, vc, vr, vb.succ⟩
    · show f_X10_frame M (iI X) = _
      unfold f_X10_frame
      rw [e_inL 0 5 hX Z0 Z5 (by omega) (by omega), bnd2_s, ifn hx]
    · show f_X11_frame M (iI X) = _
      unfold f_X11_frame
      rw [r_inL 0 5 hX Z0 Z5 (by omega) (by omega), bnd2_s, ifn hx]
end
