/-! The calls: send, count, account, orderOf. -/
theorem o_send {k : Int} (x y : Int32) : CALL k (fun M => f_X10_send M x y) (fun M => f_X11_send M x y) := by
  apply both
  intro M a n H L t vc vb
  obtain ⟨X, hX, rfl⟩ := ofI x
  obtain ⟨Y, hY, rfl⟩ := ofI y
  have R := vc.1
  have hM := vb.1.1
  unfold BM at hM
  have hS := vb.1.2.1
  unfold BS at hS
  by_cases hx : 0 ≤ X ∧ X ≤ a 52 - 1
  · obtain ⟨b, rfl⟩ : ∃ j : Nat, X = j := ⟨X.toNat, by omega⟩
    have hb : b < (a 52).toNat := by omega
    have Bb := vb.1.2.2.2.1 b hb
    by_cases hy : 0 ≤ Y ∧ Y ≤ a 53 - 1
    · obtain ⟨o, rfl⟩ : ∃ j : Nat, Y = j := ⟨Y.toNat, by omega⟩
      have ho : o < (a 53).toNat := by omega
      have Bo := vb.1.2.2.2.2.1 o ho
      have Bo' := Bo
      unfold BO at Bo'
      obtain ⟨b1, b2, b3, b4, b5, b6, b7, b8, b9⟩ := Bb
      have Bb := vb.1.2.2.2.1 b hb
      by_cases g : a (857 + 4 * o) = 0 ∧ fit a b o ∧ a (54 + 8 * b) + a (55 + 8 * b) ≤ a 51
      · obtain ⟨g1, g2, g3⟩ := g
        have hBd1 : Bd (k + 1) (uI (uI a (60 + 8 * b) 2) (61 + 8 * b) o) := by
          refine vb.1.bell (b := b) (by omega) (by omega) (fun q hq => by rw [uI_n (by omega), uI_n (by omega)]) ?_ (fun h => absurd h (by rw [uI_n (by omega), uI_s]; omega))
          unfold BB
          rw [uI_n (show 54 + 8 * b ≠ _ by omega), uI_n (show 54 + 8 * b ≠ _ by omega), uI_n (show 55 + 8 * b ≠ _ by omega), uI_n (show 55 + 8 * b ≠ _ by omega), uI_n (show 56 + 8 * b ≠ _ by omega), uI_n (show 56 + 8 * b ≠ _ by omega), uI_n (show 57 + 8 * b ≠ _ by omega), uI_n (show 57 + 8 * b ≠ _ by omega), uI_n (show 58 + 8 * b ≠ _ by omega), uI_n (show 58 + 8 * b ≠ _ by omega), uI_n (show 59 + 8 * b ≠ _ by omega), uI_n (show 59 + 8 * b ≠ _ by omega), uI_n (show 60 + 8 * b ≠ 61 + 8 * b by omega), uI_s, uI_s]
          have hf := g2.1
          omega
        have hBd2 : Bd (k + 1) (uI (uI (uI a (60 + 8 * b) 2) (61 + 8 * b) o) (857 + 4 * o) 1) := by
          refine hBd1.order (o := o) (by omega) (by omega) (fun q hq => uI_n (by omega)) ?_ (fun h => absurd h (by rw [uI_s]; omega))
          unfold BO
          rw [uI_n (show 854 + 4 * o ≠ 857 + 4 * o by omega), uI_n (show 854 + 4 * o ≠ _ by omega), uI_n (show 854 + 4 * o ≠ _ by omega), uI_n (show 855 + 4 * o ≠ 857 + 4 * o by omega), uI_n (show 855 + 4 * o ≠ _ by omega), uI_n (show 855 + 4 * o ≠ _ by omega), uI_n (show 856 + 4 * o ≠ 857 + 4 * o by omega), uI_n (show 856 + 4 * o ≠ _ by omega), uI_n (show 856 + 4 * o ≠ _ by omega), uI_s]
          omega
        refine ⟨iI (a (54 + 8 * b) + a (55 + 8 * b)), _, pN n, pH n H a, L, t, vb.push (by omega) hBd2, ?_, fun M1 vr => ?_⟩
        · obtain ⟨M1, k1, v1, f1⟩ := c_keep' vc vb
          have r1 := v1.1.u_send (b := b) o (by omega)
          have w2 : CW M1 (up2 (up2 M1 0 (60 + 8 * b) (iI 2)) 0 (61 + 8 * b) (iI o)) (uI (uI a (60 + 8 * b) 2) (61 + 8 * b) o) := by
            refine ⟨?_, fun G g1 g2 g3 g4 g5 => by rw [up2_gn g1, up2_gn g1]⟩
            rw [up2_gr, up2_gr, up2_gn (by omega), up2_gn (by omega), up2_gn (by omega), up2_gn (by omega)]
            exact r1
          have w3 := w2.up (w2.1.u_same (q := 857 + 4 * o) 1 (by omega))
          refine OPC.go v1 f1.FC ?_ w3
          unfold f_X10_send optE
          rw [bellAt_some R hb, bnd2_s]
          simp only
          rw [orderAt_some R ho, bnd2_s]
          simp only
          rw [e_weight, bnd2_s, R.o3 ho, if_pos (by rw [g1]; rfl), c_isFitBy R hb ho Bb Bo, bnd2_s, ify g2, if_pos (show vin (6 : Int32) 7 from by decide), R.b0 hb, R.b1 hb, iI_add, show (6 : Int32).toNatClampNeg = 6 from by decide, show M (40 + 0) 6 = iI (a 51) from R.se (j := 6) (by omega), if_pos (by rw [iI_le (by omega) (by omega)]; exact g3), k1, bnd2_s]
          rfl
        · obtain ⟨M2, k2, v2', f2⟩ := r_keep' vb.2.1 vr
          refine OPR.go2 (f := fun M => f_X11_send M (iI b) (iI o)) vr v2' f2 ?_
          show f_X11_send _ _ _ = _
          have e3 : (854 : Int32) + 4 * iI (o : Int) + 3 = iI ((857 + 4 * o : Nat)) := by rw [Z854, Z4, Z3, iI_mul, iI_add, iI_add]; refine congrArg iI ?_; omega
          have e6 : iI ((54 + 8 * b : Nat)) + 6 = iI ((60 + 8 * b : Nat)) := by rw [Z6, iI_add]; refine congrArg iI ?_; omega
          have e7 : iI ((54 + 8 * b : Nat)) + 7 = iI ((61 + 8 * b : Nat)) := by rw [Z7, iI_add]; refine congrArg iI ?_; omega
          have u2 : ∀ (M : MM) (b : Nat → Int) (q : Nat), up2 (RF M b) 21 q 2 = RF M (uI b q 2) := fun M b q => up2_RF M b q 2
          have u1 : ∀ (M : MM) (b : Nat → Int) (q : Nat), up2 (RF M b) 21 q 1 = RF M (uI b q 1) := fun M b q => up2_RF M b q 1
          unfold f_X11_send
          rw [r_isBell hX (by omega), bnd2_s, ify hx, r_isOrder hY (by omega), bnd2_s, ify hy, r_atBell, bnd2_s, r_weightB (by omega), bnd2_s, r_fits (by omega) (by omega) Bb Bo, bnd2_s, ify g2, r_oo3 (by omega), bnd2_s, if_pos (by rw [g1]; rfl), r_set6, bnd2_s, if_pos (by rw [iI_le (by omega) (by omega)]; exact g3), k2, bnd2_s]
          simp only [r_atBell, bnd2_s, e3, e6, e7, if_pos (vinI (show 60 + 8 * b < 1254 by omega) (by omega)), if_pos (vinI (show 61 + 8 * b < 1254 by omega) (by omega)), if_pos (vinI (show 857 + 4 * o < 1254 by omega) (by omega)), iI_lo (show 60 + 8 * b < 2147483648 by omega), iI_lo (show 61 + 8 * b < 2147483648 by omega), iI_lo (show 857 + 4 * o < 2147483648 by omega), letB_e, u1, u2, up2_RF]
      · refine ⟨-2, a, n, H, L, t, vb.succ, OPC.same vc ?_, fun M1 vr => OPR.go (f := fun M => f_X11_send M (iI b) (iI o)) vr ?_⟩
        · unfold f_X10_send optE
          rw [bellAt_some R hb, bnd2_s]
          simp only
          rw [orderAt_some R ho, bnd2_s]
          simp only
          rw [e_weight, bnd2_s, R.o3 ho]
          by_cases g1 : a (857 + 4 * o) = 0
          · rw [if_pos (by rw [g1]; rfl), c_isFitBy R hb ho Bb Bo, bnd2_s]
            by_cases g2 : fit a b o
            · rw [ify g2, if_pos (show vin (6 : Int32) 7 from by decide), R.b0 hb, R.b1 hb, iI_add, show (6 : Int32).toNatClampNeg = 6 from by decide, show M (40 + 0) 6 = iI (a 51) from R.se (j := 6) (by omega), if_neg (by rw [iI_le (by omega) (by omega)]; exact fun q => g ⟨g1, g2, q⟩)]
            · rw [ifn g2]
          · rw [if_neg (by rw [Z0, iI_inj (by omega) (by omega)]; exact g1)]
        · show f_X11_send _ _ _ = _
          unfold f_X11_send
          rw [r_isBell hX (by omega), bnd2_s, ify hx, r_isOrder hY (by omega), bnd2_s, ify hy, r_atBell, bnd2_s, r_weightB (by omega), bnd2_s, r_fits (by omega) (by omega) Bb Bo, bnd2_s]
          by_cases g2 : fit a b o
          · rw [ify g2, r_oo3 (by omega), bnd2_s]
            by_cases g1 : a (857 + 4 * o) = 0
            · rw [if_pos (by rw [g1]; rfl), r_set6, bnd2_s, if_neg (by rw [iI_le (by omega) (by omega)]; exact fun q => g ⟨g1, g2, q⟩)]
            · rw [if_neg (by rw [Z0, iI_inj (by omega) (by omega)]; exact g1)]
          · rw [ifn g2]
    · refine ⟨-1, a, n, H, L, t, vb.succ, OPC.same vc ?_, fun M1 vr => OPR.go (f := fun M => f_X11_send M (iI b) (iI Y)) vr ?_⟩
      · unfold f_X10_send optE
        rw [bellAt_some R hb, bnd2_s]
        simp only
        rw [orderAt_none R (by omega) hY hy, bnd2_s]
      · show f_X11_send _ _ _ = _
        unfold f_X11_send
        rw [r_isBell hX (by omega), bnd2_s, ify hx, r_isOrder hY (by omega), bnd2_s, ifn hy]
  · refine ⟨-1, a, n, H, L, t, vb.succ, OPC.same vc ?_, fun M1 vr => OPR.go (f := fun M => f_X11_send M (iI X) (iI Y)) vr ?_⟩
    · unfold f_X10_send optE
      rw [bellAt_none R (by omega) hX hx, bnd2_s]
      simp only
      by_cases hy : 0 ≤ Y ∧ Y ≤ a 53 - 1
      · obtain ⟨o, rfl⟩ : ∃ j : Nat, Y = j := ⟨Y.toNat, by omega⟩
        rw [orderAt_some R (by omega), bnd2_s]
      · rw [orderAt_none R (by omega) hY hy, bnd2_s]
    · show f_X11_send _ _ _ = _
      unfold f_X11_send
      rw [r_isBell hX (by omega), bnd2_s, ifn hx]
def cntR (a : Nat → Int) (n L : Nat) (X : Int) : Int := if X = 0 then a 8 else if X = 1 then a 52 else if X = 2 then hereN a else if X = 3 then cn (stP a 1) (a 52).toNat else if X = 4 then cn (stP a 2) (a 52).toNat else if X = 5 then a 53 else if X = 6 then cn (orP a 0) (a 53).toNat else if X = 7 then cn (orP a 1) (a 53).toNat else if X = 8 then n else if X = 9 then L else if 20 ≤ X ∧ X ≤ 26 then a (45 + (X - 20).toNat) else -1
theorem o_count {k : Int} (x : Int32) : CALL k (fun M => f_X10_count M x) (fun M => f_X11_count M x) := by
  apply both
  intro M a n H L t vc vb
  obtain ⟨X, hX, rfl⟩ := ofI x
  have R := vc.1
  have hM := vb.1.1
  unfold BM at hM
  have hB := vb.1.2.2.2.1
  have hO := vb.1.2.2.2.2.1
  refine ⟨iI (cntR a n L X), a, n, H, L, t, vb.succ, OPC.same vc ?_, fun M1 vr => OPR.go (f := fun M => f_X11_count M (iI X)) vr ?_⟩
  · unfold f_X10_count cntR
    by_cases h0 : X = 0
    · subst h0; rw [if_pos (show iI 0 = 0 from rfl), R.lo (by omega), if_pos rfl]
    rw [if_neg (by rw [Z0, iI_inj hX (by omega)]; exact h0), if_neg h0]
    by_cases h1 : X = 1
    · subst h1; rw [if_pos (show iI 1 = 1 from rfl), R.nb, if_pos rfl]
    rw [if_neg (by rw [Z1, iI_inj hX (by omega)]; exact h1), if_neg h1]
    by_cases h2 : X = 2
    · subst h2; rw [if_pos (show iI 2 = 2 from rfl), c_remaining R (by omega) hB, bnd2_s, if_pos rfl]
    rw [if_neg (by rw [Z2, iI_inj hX (by omega)]; exact h2), if_neg h2]
    by_cases h3 : X = 3
    · subst h3; rw [if_pos (show iI 3 = 3 from rfl), show f_X9_bellsIn M 0 1 = _ from c_bellsIn R (s := 1) (by omega) hB (by omega), bnd2_s, if_pos rfl]
    rw [if_neg (by rw [Z3, iI_inj hX (by omega)]; exact h3), if_neg h3]
    by_cases h4 : X = 4
    · subst h4; rw [if_pos (show iI 4 = 4 from rfl), show f_X9_bellsIn M 0 2 = _ from c_bellsIn R (s := 2) (by omega) hB (by omega), bnd2_s, if_pos rfl]
    rw [if_neg (by rw [Z4, iI_inj hX (by omega)]; exact h4), if_neg h4]
    by_cases h5 : X = 5
    · subst h5; rw [if_pos (show iI 5 = 5 from rfl), R.no, if_pos rfl]
    rw [if_neg (by rw [Z5, iI_inj hX (by omega)]; exact h5), if_neg h5]
    by_cases h6 : X = 6
    · subst h6; rw [if_pos (show iI 6 = 6 from rfl), show f_X9_ordersIn M 0 0 = _ from c_ordersIn R (s := 0) (by omega) hO (by omega), bnd2_s, if_pos rfl]
    rw [if_neg (by rw [Z6, iI_inj hX (by omega)]; exact h6), if_neg h6]
    by_cases h7 : X = 7
    · subst h7; rw [if_pos (show iI 7 = 7 from rfl), show f_X9_ordersIn M 0 1 = _ from c_ordersIn R (s := 1) (by omega) hO (by omega), bnd2_s, if_pos rfl]
    rw [if_neg (by rw [Z7, iI_inj hX (by omega)]; exact h7), if_neg h7]
    by_cases h8 : X = 8
    · subst h8; rw [if_pos (show iI 8 = 8 from rfl), vc.2.1.1, if_pos rfl]
    rw [if_neg (by rw [Z8, iI_inj hX (by omega)]; exact h8), if_neg h8]
    by_cases h9 : X = 9
    · subst h9; rw [if_pos (show iI 9 = 9 from rfl), vc.2.2.1, if_pos rfl]
    rw [if_neg (by rw [Z9, iI_inj hX (by omega)]; exact h9), if_neg h9, e_inL 20 26 hX Z20 Z26 (by omega) (by omega), bnd2_s]
    by_cases hr : 20 ≤ X ∧ X ≤ 26
    · have e : iI X - 20 = iI (((X - 20).toNat : Nat) : Int) := by rw [Z20, iI_sub]; congr 1; omega
      have se := R.se (j := (X - 20).toNat) (by omega)
      rw [ify hr, if_pos hr]
      simp only [e, if_pos (vinI (show (X - 20).toNat < 7 by omega) (by omega)), iI_lo (show (X - 20).toNat < 2147483648 by omega), Nat.add_zero, se]
    · rw [ifn hr, if_neg hr]; rfl
  · show f_X11_count _ _ = _
    have v8 : vin (8 : Int32) 1254 := by decide
    have t8 : (8 : Int32).toNatClampNeg = 8 := by decide
    have v52 : vin (52 : Int32) 1254 := by decide
    have t52 : (52 : Int32).toNatClampNeg = 52 := by decide
    have v53 : vin (53 : Int32) 1254 := by decide
    have t53 : (53 : Int32).toNatClampNeg = 53 := by decide
    unfold f_X11_count cntR
    by_cases h0 : X = 0
    · subst h0; rw [if_pos (show iI 0 = 0 from rfl), if_pos v8, t8, RF_21, if_pos rfl]
    rw [if_neg (by rw [Z0, iI_inj hX (by omega)]; exact h0), if_neg h0]
    by_cases h1 : X = 1
    · subst h1; rw [if_pos (show iI 1 = 1 from rfl), if_pos v52, t52, RF_21, if_pos rfl]
    rw [if_neg (by rw [Z1, iI_inj hX (by omega)]; exact h1), if_neg h1]
    by_cases h2 : X = 2
    · subst h2; rw [if_pos (show iI 2 = 2 from rfl), r_here (by omega) hB, bnd2_s, if_pos rfl]
    rw [if_neg (by rw [Z2, iI_inj hX (by omega)]; exact h2), if_neg h2]
    by_cases h3 : X = 3
    · subst h3; rw [if_pos (show iI 3 = 3 from rfl), show f_X11_bellsThatAre (RF M1 a) 1 = _ from r_bellsThatAre (s := 1) (by omega) hB (by omega), bnd2_s, if_pos rfl]
    rw [if_neg (by rw [Z3, iI_inj hX (by omega)]; exact h3), if_neg h3]
    by_cases h4 : X = 4
    · subst h4; rw [if_pos (show iI 4 = 4 from rfl), show f_X11_bellsThatAre (RF M1 a) 2 = _ from r_bellsThatAre (s := 2) (by omega) hB (by omega), bnd2_s, if_pos rfl]
    rw [if_neg (by rw [Z4, iI_inj hX (by omega)]; exact h4), if_neg h4]
    by_cases h5 : X = 5
    · subst h5; rw [if_pos (show iI 5 = 5 from rfl), if_pos v53, t53, RF_21, if_pos rfl]
    rw [if_neg (by rw [Z5, iI_inj hX (by omega)]; exact h5), if_neg h5]
    by_cases h6 : X = 6
    · subst h6; rw [if_pos (show iI 6 = 6 from rfl), show f_X11_ordersThatAre (RF M1 a) (iI 6 - 6) = _ from r_ordersThatAre (s := 0) (by omega) hO (by omega), bnd2_s, if_pos rfl]
    rw [if_neg (by rw [Z6, iI_inj hX (by omega)]; exact h6), if_neg h6]
    by_cases h7 : X = 7
    · subst h7; rw [if_pos (show iI 7 = 7 from rfl), show f_X11_ordersThatAre (RF M1 a) (iI 7 - 6) = _ from r_ordersThatAre (s := 1) (by omega) hO (by omega), bnd2_s, if_pos rfl]
    rw [if_neg (by rw [Z7, iI_inj hX (by omega)]; exact h7), if_neg h7]
    by_cases h8 : X = 8
    · subst h8; rw [if_pos (show iI 8 = 8 from rfl), RF_n (by omega), vr.2.1, if_pos rfl]
    rw [if_neg (by rw [Z8, iI_inj hX (by omega)]; exact h8), if_neg h8]
    by_cases h9 : X = 9
    · subst h9; rw [if_pos (show iI 9 = 9 from rfl), RF_n (by omega), vr.2.2.2.1, if_pos rfl]
    rw [if_neg (by rw [Z9, iI_inj hX (by omega)]; exact h9), if_neg h9, r_inL 20 26 hX Z20 Z26 (by omega) (by omega), bnd2_s]
    by_cases hr : 20 ≤ X ∧ X ≤ 26
    · have e : iI X - 20 = iI (((X - 20).toNat : Nat) : Int) := by rw [Z20, iI_sub]; congr 1; omega
      rw [ify hr, if_pos hr, e, r_setN (by omega), bnd2_s]
    · rw [ifn hr, if_neg hr]; rfl
