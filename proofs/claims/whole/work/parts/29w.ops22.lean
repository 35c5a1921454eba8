section
/-! The call pourFor. -/
theorem VR.aside {M : MM} {a : Nat → Int} {n : Nat} {H : Nat → Nat → Int} {L : Nat} {t : Nat → Int} (h : VR M a n H L t) (w : Nat → Int32) : VR (sg M 23 w) a n H L t := by
  obtain ⟨h1, h2, h3, h4, h5⟩ := h
  exact ⟨by rw [sg_n (by omega)]; exact h1, by rw [sg_n (by omega)]; exact h2, by rw [sg_n (by omega)]; exact h3, by rw [sg_n (by omega)]; exact h4, by rw [sg_n (by omega)]; exact h5⟩
theorem o_pourFor {k : Int} (x : Int32) : CALL k (fun M => f_X10_pourFor M x) (fun M => f_X11_pourFor M x) := by
  apply both
  intro M a n H L t vc vb
  obtain ⟨X, hX, rfl⟩ := ofI x
  have R := vc.1
  have hM := vb.1.1
  have hS := vb.1.2.1
  have hbb := bC_b hM hS
  have hM' := hM
  have hS' := hS
  unfold BM at hM'
  unfold BS at hS'
  by_cases hx : 0 ≤ X ∧ X ≤ a 53 - 1
  · obtain ⟨o, rfl⟩ : ∃ j : Nat, X = j := ⟨X.toNat, by omega⟩
    have ho : o < (a 53).toNat := by omega
    have O := vb.1.2.2.2.2.1 o ho
    have O' := O
    unfold BO at O'
    obtain ⟨Mb, kb, gb, z0, z1⟩ := c_burntMelt R hM hS
    have wb := CW.o65 R gb
    have Rb := wb.1
    have bw : f_X6_weight Mb (65 + 0) 0 = some (iI (bC a + bT a), Mb) := by
      rw [e_weight]; show some (Mb 65 0 + Mb 65 1, Mb) = _; rw [z0, z1, iI_add]
    have hvb := hv_b (pf := a (854 + 4 * o)) (pt := a (855 + 4 * o))
    obtain ⟨most, hmost⟩ : ∃ most : Nat, (most : Int) = if hv (a (854 + 4 * o)) (a (855 + 4 * o)) < bC a + bT a then hv (a (854 + 4 * o)) (a (855 + 4 * o)) else bC a + bT a :=
      ⟨(if hv (a (854 + 4 * o)) (a (855 + 4 * o)) < bC a + bT a then hv (a (854 + 4 * o)) (a (855 + 4 * o)) else bC a + bT a).toNat, by split <;> omega⟩
    have hm1 : (most : Int) ≤ bC a + bT a ∧ (most : Int) ≤ 10000 := by
      by_cases c : hv (a (854 + 4 * o)) (a (855 + 4 * o)) < bC a + bT a
      · rw [if_pos c] at hmost; omega
      · rw [if_neg c] at hmost; omega
    have hno : ∀ z : Nat, most < z → z ≤ 10000 → ¬ gdP (bC a) (bT a) (a 49) (a (854 + 4 * o)) (a (855 + 4 * o)) z := by
      intro z h1 h2
      by_cases c : hv (a (854 + 4 * o)) (a (855 + 4 * o)) < bC a + bT a
      · rw [if_pos c] at hmost
        exact hv_no (by omega) (by omega) (by omega) (by omega) (by omega)
      · rw [if_neg c] at hmost
        intro q
        have := sh_nn (p := z) (s := a 49) (by omega) (by omega)
        have := q.1
        omega
    have hpf := pF_eq (c0 := bC a) (t0 := bT a) (sp := a 49) (pf := a (854 + 4 * o)) (pt := a (855 + 4 * o)) (m := most) (10000 - most) (fun z h1 h2 => hno z h1 (by omega))
    rw [show most + (10000 - most) = 10000 by omega] at hpf
    refine ⟨iI (pF (bC a) (bT a) (a 49) (a (854 + 4 * o)) (a (855 + 4 * o)) most), a, n, H, L, t, vb.succ, OPC.ofCW vc (M1 := Mb) ?_ wb, fun M1 vr => ?_⟩
    · have rt : ∃ u : Int, f_X10_rootOf Mb (iI most) = some (iI u, Mb) ∧ (0 < most → rtI most ≤ u) ∧ u ≤ 5000 := by
        by_cases c : most = 0
        · exact ⟨1, by rw [c]; exact c_rootOf0 Mb, fun q => by omega, by omega⟩
        · have := rtI_b (w := most) (by omega) (by omega)
          exact ⟨rtI most, c_rootOf (by omega) (by omega) (rtI_is (by omega) (by omega)), fun _ => Int.le_refl _, by omega⟩
      obtain ⟨u, ku, hu1, hu2⟩ := rt
      unfold f_X10_pourFor optE
      rw [orderAt_some R ho, bnd2_s]
      simp only
      unfold f_X9_heaviestBellFor
      rw [kb, bnd2_s, bw, bnd2_s, Rb.o0 ho, Rb.o1 ho, c_hv (by omega) (by omega), bnd2_s, e_jmin (by omega) (by omega), ← hmost, ku, bnd2_s, l_33 Rb hS ho O z0 z1 (by omega) (by omega) (by omega) most FU u (by omega) (by omega) (by unfold FU; omega) hu1 hu2, bnd2_s]
    · obtain ⟨w, hw⟩ : ∃ w : Nat → Int32, w = fun q => if 0 ≤ q ∧ q < 1254 then iI (a q) else M1 23 q := ⟨_, rfl⟩
      have v2 : VR (sg M1 23 w) a n H L t := vr.aside w
      have f2 : FR M1 (sg M1 23 w) := fun G g => sg_n (by omega)
      refine OPR.go2 (f := fun M => f_X11_pourFor M (iI o)) vr v2 f2 ?_
      show f_X11_pourFor _ _ = _
      have la := l_aside (M := M1) (a := a) 1254 FU 0 (M1 23) (by omega) (by unfold FU; omega)
      rw [sg_id, ← hw] at la
      have la' : f_X11_laysAside (RF M1 a) = some ((), RF (sg M1 23 w) a) := la
      obtain ⟨r0, hr0⟩ : ∃ r0, r0 = mv a 6 4 (sh (a 6) (a 45)) (sh (a 7) (a 46)) := ⟨_, rfl⟩
      have r06 : r0 6 = bC a := by rw [hr0, r0_6]; rfl
      have r07 : r0 7 = bT a := by rw [hr0, r0_7]; rfl
      have eb := r_burns (M := sg M1 23 w) (a := a) (p := 6) (by omega) (by omega) (show 0 ≤ a 7 by omega) (by omega) (show a 7 ≤ 20000000 by omega) hS
      have eb' : f_X11_burns (RF (sg M1 23 w) a) 6 = some ((), RF (sg M1 23 w) r0) := by rw [hr0]; exact eb
      have lb := l_back (M := sg M1 23 w) (a := a) (fun q hq => by rw [sg_s, hw]; simp only; rw [if_pos (by omega)]) 1254 FU 0 r0 (by omega) (by unfold FU; omega)
      have er : (fun q => if 0 ≤ q ∧ q < 1254 then a q else r0 q) = a := by
        funext q
        by_cases c : 0 ≤ q ∧ q < 1254
        · rw [if_pos c]
        · rw [if_neg c, hr0, r0_n (by omega)]
      rw [er] at lb
      have lb' : f_X11_bringsBack (RF (sg M1 23 w) r0) = some ((), RF (sg M1 23 w) a) := lb
      have v6 : vin (6 : Int32) 1254 := by decide
      have v7 : vin (7 : Int32) 1254 := by decide
      have t6 : (6 : Int32).toNatClampNeg = 6 := by decide
      have t7 : (7 : Int32).toNatClampNeg = 7 := by decide
      have l45 := l_45 (M := sg M1 23 w) hS (show o < 100 by omega) O (c0 := bC a) (t0 := bT a) (by omega) (by omega) (by omega) 10000 FU (by omega) (by unfold FU; omega)
      unfold f_X11_pourFor
      rw [r_isOrder hX (by omega), bnd2_s, ify hx, la', bnd2_s, eb', bnd2_s, if_pos v6, if_pos v7, lb', bnd2_s, t6, t7, RF_21, RF_21, r06, r07, ← hpf]
      exact l45
  · refine ⟨-1, a, n, H, L, t, vb.succ, OPC.same vc ?_, fun M1 vr => OPR.go (f := fun M => f_X11_pourFor M (iI X)) vr ?_⟩
    · unfold f_X10_pourFor optE
      rw [orderAt_none R (by omega) hX hx, bnd2_s]
    · show f_X11_pourFor _ _ = _
      unfold f_X11_pourFor
      rw [r_isOrder hX (by omega), bnd2_s, ifn hx]
end
