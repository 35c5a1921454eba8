/-! The calls: metal, settings, text. -/
theorem ofI (x : Int32) : ∃ X : Int, B31 X ∧ x = iI X := ⟨_, iI_B x, iI_of x⟩
theorem VC.txt {M M1 : MM} {a : Nat → Int} {n : Nat} {H : Nat → Nat → Int} {L L' : Nat} {t t' : Nat → Int} (h : VC M a n H L t) (hF : ∀ G, G ≠ 5 → G ≠ 14 → M1 G = M G) (h5 : M1 5 0 = iI L') (h14 : ∀ i, i < L' → M1 14 i = iI (t' i)) : VC M1 a n H L' t' := by
  obtain ⟨h1, ⟨g1, g2, g3, g4, g5, g6⟩, h3, h4⟩ := h
  refine ⟨?_, ⟨?_, g2, ?_, ?_, ?_, ?_⟩, h5, h14⟩
  · rw [hF 0 (by omega) (by omega), hF 40 (by omega) (by omega), hF 50 (by omega) (by omega)]; exact h1
  · rw [hF 6 (by omega) (by omega)]; exact g1
  · rw [hF 35 (by omega) (by omega)]; exact g3
  · rw [hF 35 (by omega) (by omega)]; exact g4
  · intro k hk; rw [hF _ (by omega) (by omega)]; exact g5 k hk
  · intro i hi
    have := g3 i (by omega)
    rw [hF 35 (by omega) (by omega), hF (pm (M 35) i) (by omega) (by omega), hF (40 + pm (M 35) i) (by omega) (by omega), hF (50 + pm (M 35) i) (by omega) (by omega)]
    exact g6 i hi
theorem VR.txt {M M1 : MM} {a : Nat → Int} {n : Nat} {H : Nat → Nat → Int} {L L' : Nat} {t t' : Nat → Int} (h : VR M a n H L t) (h21 : M1 21 = M 21) (h22 : M1 22 = M 22) (h3 : M1 20 3 = M 20 3) (h5 : M1 20 8 = iI L') (h14 : ∀ i, i < L' → M1 27 i = iI (t' i)) : VR M1 a n H L' t' := by
  obtain ⟨g1, g2, g3, g4, g5⟩ := h
  exact ⟨by rw [h21]; exact g1, by rw [h3]; exact g2, by rw [h22]; exact g3, h5, h14⟩
theorem o_clear (k : Int) : CALL k f_X10_clearText f_X11_clearText := by
  apply both
  intro M a n H L t vc vb
  refine ⟨iI L, a, n, H, 0, t, ⟨vb.1.mono (by omega), vb.2.1, fun i hi => (vb.2.2.1 i hi).mono (by omega), by omega, fun i hi => by omega⟩, ⟨up2 M 5 0 0, ?_, ?_, ?_⟩, fun M1 vr => ⟨up2 M1 20 8 0, ?_, ?_, ?_⟩⟩
  · unfold f_X10_clearText; rw [letB_e, vc.2.2.1]
  · exact vc.txt (fun G g1 g2 => up2_gn g1) (up2_eq _ _ _ _) (fun i hi => by omega)
  · exact fun G g1 g2 => up2_gn (by omega)
  · unfold f_X11_clearText; rw [letB_e, vr.2.2.2.1]
  · exact vr.txt (up2_gn (by omega)) (up2_gn (by omega)) (up2_in _ (by omega)) (up2_eq _ _ _ _) (fun i hi => by omega)
  · exact fun G g => up2_gn (by omega)
theorem nar_ch : ∀ n : Nat, n < 127 → vp_nar .char (((Int32.ofNat n).toUInt32 % 65536).toInt32) = Int32.ofNat n := by decide +kernel
theorem o_type (k : Int) (x : Int32) : CALL k (fun M => f_X10_type M x) (fun M => f_X11_type M x) := by
  apply both
  intro M a n H L t vc vb
  obtain ⟨X, hX, rfl⟩ := ofI x
  obtain ⟨hL, ht⟩ := vb.2.2.2
  have c1 := e_inL (M := M) 32 126 hX Z32 Z126 (by omega) (by omega)
  by_cases hx : 32 ≤ X ∧ X ≤ 126
  · by_cases h60 : L = 60
    · refine ⟨-3, a, n, H, L, t, vb.succ, OPC.same vc ?_, fun M1 vr => OPR.same vr ?_⟩
      · unfold f_X10_type
        rw [c1, bnd2_s, ify hx, vc.2.2.1, if_neg (by rw [Z60, iI_lt (by omega) (by omega)]; omega)]
      · unfold f_X11_type
        rw [r_inL 32 126 hX Z32 Z126 (by omega) (by omega), bnd2_s, ify hx, vr.2.2.2.1, if_pos (by rw [h60]; rfl)]
    · have hn : vp_nar .char (((iI X).toUInt32 % 65536).toInt32) = iI X := by
        have h := nar_ch X.toNat (by omega)
        have e : Int32.ofNat X.toNat = iI X := by rw [iI_N (by omega)]; rfl
        rw [e] at h; exact h
      have tL : (iI (L : Int)).toNatClampNeg = L := iI_lo (by omega)
      have vL : vin (iI (L : Int)) 60 := vinI (by omega) (by omega)
      refine ⟨iI (L + 1 : Nat), a, n, H, L + 1, uI t L X, ⟨vb.1.mono (by omega), vb.2.1, fun i hi => (vb.2.2.1 i hi).mono (by omega), by omega, fun i hi => ?_⟩, ⟨up2 (up2 M 14 L (iI X)) 5 0 (iI (L + 1 : Nat)), ?_, ?_, ?_⟩, fun M1 vr => ⟨up2 (up2 M1 27 L (iI X)) 20 8 (iI (L + 1 : Nat)), ?_, ?_, ?_⟩⟩
      · by_cases e : i = L
        · subst e; rw [uI_s]; exact hx
        · rw [uI_n e]; exact ht i (by omega)
      · unfold f_X10_type
        rw [c1, bnd2_s, ify hx, if_pos (by rw [vc.2.2.1, Z60, iI_lt (by omega) (by omega)]; omega)]
        simp only [vc.2.2.1, if_pos vL, tL, hn, letB_e, up2_gn (show 5 ≠ 14 by omega), Z1, iI_add, up2_eq]
        rfl
      · refine vc.txt (fun G g1 g2 => by rw [up2_gn g1, up2_gn g2]) (up2_eq _ _ _ _) (fun i hi => ?_)
        rw [up2_gn (by omega), up2_gr]
        by_cases e : i = L
        · subst e; rw [upd_s, uI_s]
        · rw [upd_n e, uI_n e]; exact vc.2.2.2 i (by omega)
      · exact fun G g1 g2 => by rw [up2_gn (by omega), up2_gn (by omega)]
      · unfold f_X11_type
        rw [r_inL 32 126 hX Z32 Z126 (by omega) (by omega), bnd2_s, ify hx, if_neg (by rw [vr.2.2.2.1, Z60, iI_inj (by omega) (by omega)]; omega)]
        simp only [vr.2.2.2.1, if_pos vL, tL, letB_e, up2_gn (show 20 ≠ 27 by omega), Z1, iI_add, up2_eq]
        rfl
      · refine vr.txt (by rw [up2_gn (by omega), up2_gn (by omega)]) (by rw [up2_gn (by omega), up2_gn (by omega)]) (by rw [up2_in _ (by omega), up2_gn (by omega)]) (up2_eq _ _ _ _) (fun i hi => ?_)
        rw [up2_gn (by omega), up2_gr]
        by_cases e : i = L
        · subst e; rw [upd_s, uI_s]
        · rw [upd_n e, uI_n e]; exact vr.2.2.2.2 i (by omega)
      · exact fun G g => by rw [up2_gn (by omega), up2_gn (by omega)]
  · refine ⟨-1, a, n, H, L, t, vb.succ, OPC.same vc ?_, fun M1 vr => OPR.same vr ?_⟩
    · unfold f_X10_type
      rw [c1, bnd2_s, ifn hx]
    · unfold f_X11_type
      rw [r_inL 32 126 hX Z32 Z126 (by omega) (by omega), bnd2_s, ifn hx]
theorem c_of (M : MM) (G i : Nat) {m : Nat} (hm : m ≤ 1) : f_X6_of M G i (iI m) = some (M G (i + m), M) := by
  have h : m = 0 ∨ m = 1 := by omega
  rcases h with rfl | rfl
  · exact e_of0 M G i
  · exact e_of1 M G i
theorem c_put {M : MM} {a : Nat → Int} (R : RA (M 0) (M 40) (M 50) a) {q m : Nat} (hm : m ≤ 1) (hq : q + 1 < 8) (y : Int) : ∃ M1, f_X6_put M 0 q (iI m) (iI y) = some ((), M1) ∧ CW M M1 (uI a (q + m) (a (q + m) + y)) := by
  have h : m = 0 ∨ m = 1 := by omega
  rcases h with rfl | rfl
  · exact c_put0 R (by omega) y
  · exact c_put1 R hq y
theorem o_buy {k : Int} (x y : Int32) : CALL k (fun M => f_X10_buy M x y) (fun M => f_X11_buy M x y) := by
  apply both
  intro M a n H L t vc vb
  obtain ⟨X, hX, rfl⟩ := ofI x
  obtain ⟨Y, hY, rfl⟩ := ofI y
  have R := vc.1
  have hB := vb.1.1
  unfold BM at hB
  by_cases hx : 0 ≤ X ∧ X ≤ 1
  · by_cases hy : 1 ≤ Y ∧ Y ≤ 100000
    · obtain ⟨m, rfl⟩ : ∃ m : Nat, X = m := ⟨X.toNat, by omega⟩
      have hm : m = 0 ∨ m = 1 := by omega
      have am : 0 ≤ a m ∧ a m ≤ 1000000 := by rcases hm with rfl | rfl <;> omega
      have e0 : (0 : Int32) + iI (m : Int) = iI (m : Int) := by rw [Z0, iI_add]; congr 1; omega
      have e2 : (2 : Int32) + iI (m : Int) = iI ((2 + m : Nat)) := by rw [Z2, iI_add]; congr 1
      have v0 : vin (iI (m : Int)) 1254 := vinI (by omega) (by omega)
      have v2 : vin (iI ((2 + m : Nat))) 1254 := vinI (by omega) (by omega)
      have t0 : (iI (m : Int)).toNatClampNeg = m := iI_lo (by omega)
      have t2 : (iI ((2 + m : Nat))).toNatClampNeg = 2 + m := iI_lo (by omega)
      by_cases c : a m + Y ≤ 1000000
      · have c' : iI (a m + Y) ≤ 1000000 := by rw [Z1000000, iI_le (by omega) (by omega)]; exact c
        refine ⟨iI (a m + Y), uI (uI a m (a m + Y)) (2 + m) (a (2 + m) + Y), pN n, pH n H a, L, t, vb.push (by omega) (vb.1.lo (by omega) ?_ ?_), ?_, fun M1 vr => ?_⟩
        · rcases hm with rfl | rfl <;> (unfold BM; simp [uI]; omega)
        · intro q hq; rw [uI_n (by omega), uI_n (by omega)]
        · obtain ⟨M1, k1, v1, f1⟩ := c_keep' vc vb
          obtain ⟨M2, k2, w2⟩ := c_put v1.1 (q := 2) (m := m) (by omega) (by omega) Y
          obtain ⟨M3, k3, w3⟩ := c_put w2.1 (q := 0) (m := m) (by omega) (by omega) Y
          refine OPC.go v1 f1.FC (M2 := M3) ?_ ?_
          · unfold f_X10_buy
            rw [e_isMetal hX, bnd2_s, ify hx, e_inL 1 100000 hY Z1 Z100000 (by omega) (by omega), bnd2_s, ify hy, c_of M 0 0 (by omega), bnd2_s, Nat.zero_add, R.lo (by omega), iI_add, if_pos c', k1, bnd2_s, k2, bnd2_s, k3, bnd2_s, c_of M3 0 0 (by omega), bnd2_s, Nat.zero_add, w3.1.lo (by omega), Nat.zero_add, uI_s, uI_n (by omega)]
          · have w := w2.trans w3
            rw [Nat.zero_add, uI_n (show m ≠ 2 + m by omega), uI_comm (by omega)] at w
            exact w
        · obtain ⟨M2, k2, v2', f2⟩ := r_keep' vb.2.1 vr
          refine OPR.go2 (f := fun M => f_X11_buy M (iI m) (iI Y)) vr v2' f2 ?_
          show f_X11_buy _ _ _ = _
          unfold f_X11_buy
          rw [r_isMetal hX, bnd2_s, ify hx, r_inL 1 100000 hY Z1 Z100000 (by omega) (by omega), bnd2_s, ify hy]
          simp only [e0, e2, if_pos v0, if_pos v2, t0, t2, RF_21, iI_add, if_pos c', k2, bnd2_s, letB_e, up2_RF, uI_s, uI_n (show 2 + m ≠ m by omega), uI_n (show m ≠ 2 + m by omega)]
      · have c' : ¬ iI (a m + Y) ≤ 1000000 := by rw [Z1000000, iI_le (by omega) (by omega)]; exact c
        refine ⟨-3, a, n, H, L, t, vb.succ, OPC.same vc ?_, fun M1 vr => OPR.go (f := fun M => f_X11_buy M (iI m) (iI Y)) vr ?_⟩
        · unfold f_X10_buy
          rw [e_isMetal hX, bnd2_s, ify hx, e_inL 1 100000 hY Z1 Z100000 (by omega) (by omega), bnd2_s, ify hy, c_of M 0 0 (by omega), bnd2_s, Nat.zero_add, R.lo (by omega), iI_add, if_neg c']
        · show f_X11_buy _ _ _ = _
          unfold f_X11_buy
          rw [r_isMetal hX, bnd2_s, ify hx, r_inL 1 100000 hY Z1 Z100000 (by omega) (by omega), bnd2_s, ify hy]
          simp only [e0, if_pos v0, t0, RF_21, iI_add, if_neg c']
    · refine ⟨-1, a, n, H, L, t, vb.succ, OPC.same vc ?_, fun M1 vr => OPR.same vr ?_⟩
      · unfold f_X10_buy
        rw [e_isMetal hX, bnd2_s, ify hx, e_inL 1 100000 hY Z1 Z100000 (by omega) (by omega), bnd2_s, ifn hy]
      · unfold f_X11_buy
        rw [r_isMetal hX, bnd2_s, ify hx, r_inL 1 100000 hY Z1 Z100000 (by omega) (by omega), bnd2_s, ifn hy]
  · refine ⟨-1, a, n, H, L, t, vb.succ, OPC.same vc ?_, fun M1 vr => OPR.same vr ?_⟩
    · unfold f_X10_buy
      rw [e_isMetal hX, bnd2_s, ifn hx]
    · unfold f_X11_buy
      rw [r_isMetal hX, bnd2_s, ifn hx]
