/-! The calls: cancel, order, send, count. -/
theorem o_cancel {k : Int} (x : Int32) : CALL k (fun M => f_X10_cancel M x) (fun M => f_X11_cancel M x) := by
  apply both
  intro M a n H L t vc vb
  obtain ⟨X, hX, rfl⟩ := ofI x
  have R := vc.1
  have hM := vb.1.1
  unfold BM at hM
  by_cases hx : 0 ≤ X ∧ X ≤ a 53 - 1
  · obtain ⟨j, rfl⟩ : ∃ j : Nat, X = j := ⟨X.toNat, by omega⟩
    have hj : j < (a 53).toNat := by omega
    have ho := vb.1.2.2.2.2.1 j hj
    have ho' := ho
    unfold BO at ho'
    by_cases c : a (857 + 4 * j) = 0
    · have hBd : Bd (k + 1) (uI a (857 + 4 * j) 2) := by
        refine vb.1.order (o := j) (by omega) (by omega) (fun q hq => uI_n (by omega)) ?_ (fun h => absurd h (by rw [uI_s]; omega))
        unfold BO
        rw [uI_n (show 854 + 4 * j ≠ _ by omega), uI_n (show 855 + 4 * j ≠ _ by omega), uI_n (show 856 + 4 * j ≠ _ by omega), uI_s]
        omega
      have a53 : uI a (857 + 4 * j) 2 53 = a 53 := uI_n (by omega)
      refine ⟨iI (cn (orP (uI a (857 + 4 * j) 2) 0) (a 53).toNat), uI a (857 + 4 * j) 2, pN n, pH n H a, L, t, vb.push (by omega) hBd, ?_, fun M1 vr => ?_⟩
      · obtain ⟨M1, k1, v1, f1⟩ := c_keep' vc vb
        have w1 : CW M1 (up2 M1 0 (857 + 4 * j) (iI 2)) (uI a (857 + 4 * j) 2) := (CW.refl v1.1).up (v1.1.u_same _ (by omega))
        refine OPC.go v1 f1.FC (M2 := up2 M1 0 (857 + 4 * j) (iI 2)) ?_ w1
        have q := c_ordersIn w1.1 (s := 0) (by omega) hBd.2.2.2.2.1 (by omega)
        unfold f_X10_cancel optE
        rw [orderAt_some R hj, bnd2_s]
        simp only
        rw [R.o3 hj, if_pos (by rw [c]; rfl), k1, bnd2_s, letB_e, show (2 : Int32) = iI 2 from rfl, show f_X9_ordersIn (up2 M1 0 (857 + 4 * j) (iI 2)) 0 0 = _ from q, bnd2_s, a53]
      · obtain ⟨M2, k2, v2', f2⟩ := r_keep' vb.2.1 vr
        refine OPR.go2 (f := fun M => f_X11_cancel M (iI j)) vr v2' f2 ?_
        show f_X11_cancel _ _ = _
        have e3 : (854 : Int32) + 4 * iI (j : Int) + 3 = iI ((857 + 4 * j : Nat)) := by rw [Z854, Z4, Z3, iI_mul, iI_add, iI_add]; refine congrArg iI ?_; omega
        have q := r_ordersThatAre (M := M2) (a := uI a (857 + 4 * j) 2) (s := 0) (by rw [a53]; omega) hBd.2.2.2.2.1 (by omega)
        unfold f_X11_cancel
        rw [r_isOrder hX (by omega), bnd2_s, ify hx, r_oo3 (by omega), bnd2_s, if_pos (by rw [c]; rfl), k2, bnd2_s]
        simp only [e3, if_pos (vinI (show 857 + 4 * j < 1254 by omega) (by omega)), iI_lo (show 857 + 4 * j < 2147483648 by omega), letB_e, Z2, up2_RF]
        rw [show f_X11_ordersThatAre (RF M2 (uI a (857 + 4 * j) 2)) 0 = _ from q, bnd2_s, a53]
    · refine ⟨-2, a, n, H, L, t, vb.succ, OPC.same vc ?_, fun M1 vr => OPR.go (f := fun M => f_X11_cancel M (iI j)) vr ?_⟩
      · unfold f_X10_cancel optE
        rw [orderAt_some R hj, bnd2_s]
        simp only
        rw [R.o3 hj, if_neg (by rw [Z0, iI_inj (by omega) (by omega)]; exact c)]
      · show f_X11_cancel _ _ = _
        unfold f_X11_cancel
        rw [r_isOrder hX (by omega), bnd2_s, ify hx, r_oo3 (by omega), bnd2_s, if_neg (by rw [Z0, iI_inj (by omega) (by omega)]; exact c)]
  · refine ⟨-1, a, n, H, L, t, vb.succ, OPC.same vc ?_, fun M1 vr => OPR.go (f := fun M => f_X11_cancel M (iI X)) vr ?_⟩
    · unfold f_X10_cancel
      rw [orderAt_none R (by omega) hX hx, bnd2_s]; rfl
    · show f_X11_cancel _ _ = _
      unfold f_X11_cancel
      rw [r_isOrder hX (by omega), bnd2_s, ifn hx]
def ordA (a : Nat → Int) (o : Nat) (p q s : Int) : Nat → Int := uI (uI (uI (uI (uI a (854 + 4 * o) p) (855 + 4 * o) q) (856 + 4 * o) s) (857 + 4 * o) 0) 53 (a 53 + 1)
theorem Bd_ordA {k k' : Int} {a : Nat → Int} {o : Nat} {p q s : Int} (h : Bd k a) (hk : k ≤ k') (e : a 53 = o) (ho : o < 100) (hp : 0 ≤ p ∧ p ≤ 3) (hq : 1 ≤ q ∧ q ≤ 20000) (hs : 0 ≤ s ∧ s ≤ 500) (hN : openN a ≠ 8) : Bd k' (ordA a o p q s) := by
  obtain ⟨h1, h2, h3, h4, h5, h6, h7⟩ := h.mono hk
  have e' : ∀ q', q' ≠ 53 → (q' < 854 + 4 * o ∨ 858 + 4 * o ≤ q') → ordA a o p q s q' = a q' := fun q' g1 g2 => by
    show uI _ _ _ _ = _
    rw [uI_n (by omega), uI_n (by omega), uI_n (by omega), uI_n (by omega), uI_n (by omega)]
  have e53 : ordA a o p q s 53 = o + 1 := by show uI _ _ _ _ = _; rw [uI_s, e]
  have f0 : ordA a o p q s (854 + 4 * o) = p := by show uI _ _ _ _ = _; rw [uI_n (by omega), uI_n (by omega), uI_n (by omega), uI_n (by omega), uI_s]
  have f1 : ordA a o p q s (855 + 4 * o) = q := by show uI _ _ _ _ = _; rw [uI_n (by omega), uI_n (by omega), uI_n (by omega), uI_s]
  have f2 : ordA a o p q s (856 + 4 * o) = s := by show uI _ _ _ _ = _; rw [uI_n (by omega), uI_n (by omega), uI_s]
  have f3 : ordA a o p q s (857 + 4 * o) = 0 := by show uI _ _ _ _ = _; rw [uI_n (by omega), uI_s]
  have e52 := e' 52 (by omega) (by omega)
  refine ⟨?_, h2.congr (fun q _ _ => e' q (by omega) (by omega)), fun i hi => (h3 i hi).congr (fun q _ _ => e' q (by omega) (by omega)), fun b hb => ?_, fun o' ho' => ?_, ?_, ?_⟩
  · unfold BM at h1 ⊢
    rw [e' 0 (by omega) (by omega), e' 1 (by omega) (by omega), e' 6 (by omega) (by omega), e' 7 (by omega) (by omega), e' 8 (by omega) (by omega), e52, e53]
    omega
  · unfold BM at h1
    rw [e52] at hb
    exact (h4 b hb).congr (fun q _ _ => e' q (by omega) (by omega))
  · rw [e53] at ho'
    by_cases c : o' = o
    · subst c
      unfold BO
      rw [f0, f1, f2, f3]; omega
    · exact (h5 o' (by omega)).congr (fun q _ _ => e' q (by omega) (by omega))
  · unfold BM at h1
    unfold hereN at h6 ⊢
    rw [e52, cn_congr (Q := hereP a) (fun i hi => by unfold hereP; rw [e' _ (by omega) (by omega)])]
    exact h6
  · unfold openN at h7 hN ⊢
    rw [e53, show ((o : Int) + 1).toNat = o + 1 by omega]
    have : cn (openP (ordA a o p q s)) o = cn (openP a) o := cn_congr (fun i hi => by unfold openP; rw [e' _ (by omega) (by omega)])
    have h8 := cn_s (P := openP (ordA a o p q s)) (n := o) (by unfold openP; rw [f3]; rfl)
    rw [e, show ((o : Int)).toNat = o by omega] at h7 hN
    omega
theorem o_order {k : Int} (x y z : Int32) : CALL k (fun M => f_X10_order M x y z) (fun M => f_X11_order M x y z) := by
  apply both
  intro M a n H L t vc vb
  obtain ⟨X, hX, rfl⟩ := ofI x
  obtain ⟨Y, hY, rfl⟩ := ofI y
  obtain ⟨U, hU, rfl⟩ := ofI z
  have R := vc.1
  have hM := vb.1.1
  unfold BM at hM
  have hO := vb.1.2.2.2.2.1
  have hN := vb.1.2.2.2.2.2.2
  have cOp := c_ordersIn R (s := 0) (by omega) hO (by omega)
  have eOp : cn (orP a 0) (a 53).toNat = openN a := rfl
  rw [eOp] at cOp
  have rOp : ∀ M1, f_X11_ordersThatAre (RF M1 a) (iI 0) = some (iI (openN a), RF M1 a) := fun M1 => r_ordersThatAre (by omega) hO (by omega)
  by_cases hx : 0 ≤ X ∧ X ≤ 3
  · by_cases hy : 1 ≤ Y ∧ Y ≤ 20000
    · by_cases hu : 0 ≤ U ∧ U ≤ 500
      · by_cases c8 : openN a = 8
        · refine ⟨-3, a, n, H, L, t, vb.succ, OPC.same vc ?_, fun M1 vr => OPR.go (f := fun M => f_X11_order M (iI X) (iI Y) (iI U)) vr ?_⟩
          · unfold f_X10_order
            rw [e_isProfile hX, bnd2_s, ify hx, e_inL 1 20000 hY Z1 Z20000 (by omega) (by omega), bnd2_s, ify hy, e_inL 0 500 hU Z0 Z500 (by omega) (by omega), bnd2_s, ify hu, show f_X9_ordersIn M 0 0 = _ from cOp, bnd2_s, if_pos (by rw [c8]; decide)]
          · show f_X11_order _ _ _ _ = _
            unfold f_X11_order
            rw [r_inL 0 3 hX Z0 Z3 (by omega) (by omega), bnd2_s, ify hx, r_inL 1 20000 hY Z1 Z20000 (by omega) (by omega), bnd2_s, ify hy, r_inL 0 500 hU Z0 Z500 (by omega) (by omega), bnd2_s, ify hu, show f_X11_ordersThatAre (RF M1 a) 0 = _ from rOp M1, bnd2_s, if_pos (by rw [c8]; rfl)]
        · have d8 : ¬ (8 : Int32) ≤ iI (openN a) := by rw [Z8, iI_le (by omega) (by omega)]; omega
          have d8' : ¬ iI (openN a : Int) = 8 := by rw [Z8, iI_inj (by omega) (by omega)]; omega
          have v53 : vin (53 : Int32) 1254 := by decide
          have t53 : (53 : Int32).toNatClampNeg = 53 := by decide
          by_cases c100 : a 53 = 100
          · refine ⟨-3, a, n, H, L, t, vb.succ, OPC.same vc ?_, fun M1 vr => OPR.go (f := fun M => f_X11_order M (iI X) (iI Y) (iI U)) vr ?_⟩
            · unfold f_X10_order
              rw [e_isProfile hX, bnd2_s, ify hx, e_inL 1 20000 hY Z1 Z20000 (by omega) (by omega), bnd2_s, ify hy, e_inL 0 500 hU Z0 Z500 (by omega) (by omega), bnd2_s, ify hu, show f_X9_ordersIn M 0 0 = _ from cOp, bnd2_s, if_neg d8, R.no, if_neg (by rw [c100]; decide)]
            · show f_X11_order _ _ _ _ = _
              unfold f_X11_order
              rw [r_inL 0 3 hX Z0 Z3 (by omega) (by omega), bnd2_s, ify hx, r_inL 1 20000 hY Z1 Z20000 (by omega) (by omega), bnd2_s, ify hy, r_inL 0 500 hU Z0 Z500 (by omega) (by omega), bnd2_s, ify hu, show f_X11_ordersThatAre (RF M1 a) 0 = _ from rOp M1, bnd2_s, if_neg d8']
              simp only [if_pos v53, t53, RF_21]
              rw [if_pos (by rw [c100]; rfl)]
          · obtain ⟨o, ho⟩ : ∃ o : Nat, a 53 = o := ⟨(a 53).toNat, by omega⟩
            have ho1 : o < 100 := by omega
            have hto : (a 53).toNat = o := by omega
            refine ⟨iI o, ordA a o X Y U, pN n, pH n H a, L, t, vb.push (by omega) (Bd_ordA vb.1 (by omega) ho ho1 hx hy hu c8), ?_, fun M1 vr => ?_⟩
            · obtain ⟨M1, k1, v1, f1⟩ := c_keep' vc vb
              have w1 := (CW.refl v1.1).up (v1.1.u_same (q := 854 + 4 * o) X (by omega))
              have w2 := w1.up (w1.1.u_same (q := 855 + 4 * o) Y (by omega))
              have w3 := w2.up (w2.1.u_same (q := 856 + 4 * o) U (by omega))
              have w4 := w3.up (w3.1.u_same (q := 857 + 4 * o) 0 (by omega))
              obtain ⟨M5, hM5⟩ : ∃ M5, M5 = up2 (up2 (up2 (up2 M1 0 (854 + 4 * o) (iI X)) 0 (855 + 4 * o) (iI Y)) 0 (856 + 4 * o) (iI U)) 0 (857 + 4 * o) (iI 0) := ⟨_, rfl⟩
              rw [← hM5] at w4
              have n53 : M5 0 53 = iI (a 53) := by
                rw [hM5, up2_in _ (by omega), up2_in _ (by omega), up2_in _ (by omega), up2_in _ (by omega)]; exact v1.1.no
              have a4 : uI (uI (uI (uI a (854 + 4 * o) X) (855 + 4 * o) Y) (856 + 4 * o) U) (857 + 4 * o) 0 53 = a 53 := by
                rw [uI_n (by omega), uI_n (by omega), uI_n (by omega), uI_n (by omega)]
              have w5 := w4.up (w4.1.u_order (by rw [a4]; omega) (by rw [a4]; omega) (fun f hf => by
                rw [a4, hto, hM5]
                have hq : f = 0 ∨ f = 1 ∨ f = 2 ∨ f = 3 := by omega
                rcases hq with rfl | rfl | rfl | rfl
                · rw [Nat.add_zero, up2_in _ (by omega), up2_in _ (by omega), up2_in _ (by omega), up2_eq, uI_n (by omega), uI_n (by omega), uI_n (by omega), uI_s]
                · rw [show 854 + 4 * o + 1 = 855 + 4 * o by omega, up2_in _ (by omega), up2_in _ (by omega), up2_eq, uI_n (by omega), uI_n (by omega), uI_s]
                · rw [show 854 + 4 * o + 2 = 856 + 4 * o by omega, up2_in _ (by omega), up2_eq, uI_n (by omega), uI_s]
                · rw [show 854 + 4 * o + 3 = 857 + 4 * o by omega, up2_eq, uI_s]))
              rw [a4] at w5
              refine OPC.go v1 f1.FC (M2 := up2 M5 0 53 (iI (a 53 + 1))) ?_ w5
              unfold f_X10_order
              rw [e_isProfile hX, bnd2_s, ify hx, e_inL 1 20000 hY Z1 Z20000 (by omega) (by omega), bnd2_s, ify hy, e_inL 0 500 hU Z0 Z500 (by omega) (by omega), bnd2_s, ify hu, show f_X9_ordersIn M 0 0 = _ from cOp, bnd2_s, if_neg d8, R.no, if_pos (by rw [Z100, iI_lt (by omega) (by omega)]; omega), k1, bnd2_s]
              unfold f_X9_takeOrder
              have t5 : (iI (a 53)).toNatClampNeg = o := by rw [ho]; exact iI_lo (by omega)
              have v5 : vin (iI (a 53)) 100 := by rw [ho]; exact vinI (by omega) (by omega)
              simp only [v1.1.no, if_pos v5, t5, letB_e, Z0, ← hM5, n53, Z1, iI_add, up2_eq, iI_sub, bnd2_s]
              rw [show a 53 + 1 - 1 = o by omega]
            · obtain ⟨M2, k2, v2', f2⟩ := r_keep' vb.2.1 vr
              refine OPR.go2 (f := fun M => f_X11_order M (iI X) (iI Y) (iI U)) vr v2' f2 ?_
              show f_X11_order _ _ _ _ = _
              unfold f_X11_order
              rw [r_inL 0 3 hX Z0 Z3 (by omega) (by omega), bnd2_s, ify hx, r_inL 1 20000 hY Z1 Z20000 (by omega) (by omega), bnd2_s, ify hy, r_inL 0 500 hU Z0 Z500 (by omega) (by omega), bnd2_s, ify hu, show f_X11_ordersThatAre (RF M1 a) 0 = _ from rOp M1, bnd2_s, if_neg d8']
              have c100' : ¬ iI (a 53) = 100 := by rw [Z100, iI_inj (by omega) (by omega)]; exact c100
              simp only [if_pos v53, t53, RF_21, if_neg c100', k2, bnd2_s]
              have e0 : (854 : Int32) + 4 * iI (o : Int) = iI ((854 + 4 * o : Nat)) := by rw [Z854, Z4, iI_mul, iI_add]; refine congrArg iI ?_; omega
              have e1 : iI ((854 + 4 * o : Nat)) + 1 = iI ((855 + 4 * o : Nat)) := by rw [Z1, iI_add]; refine congrArg iI ?_; omega
              have e2 : iI ((854 + 4 * o : Nat)) + 2 = iI ((856 + 4 * o : Nat)) := by rw [Z2, iI_add]; refine congrArg iI ?_; omega
              have e3 : iI ((854 + 4 * o : Nat)) + 3 = iI ((857 + 4 * o : Nat)) := by rw [Z3, iI_add]; refine congrArg iI ?_; omega
              have e4 : iI ((o : Nat) : Int) + 1 = iI (a 53 + 1) := by rw [Z1, iI_add, ho]
              have n4 : uI (uI (uI (uI a (854 + 4 * o) X) (855 + 4 * o) Y) (856 + 4 * o) U) (857 + 4 * o) 0 53 = a 53 := by
                rw [uI_n (by omega), uI_n (by omega), uI_n (by omega), uI_n (by omega)]
              have z0 : (0 : Int32) = iI 0 := rfl
              have ux : ∀ (M : MM) (b : Nat → Int) (q : Nat), up2 (RF M b) 21 q 0 = RF M (uI b q 0) := fun M b q => up2_RF M b q 0
              simp only [if_pos v53, t53, RF_21, ho, e0, e1, e2, e3, if_pos (vinI (show 854 + 4 * o < 1254 by omega) (by omega)), if_pos (vinI (show 855 + 4 * o < 1254 by omega) (by omega)), if_pos (vinI (show 856 + 4 * o < 1254 by omega) (by omega)), if_pos (vinI (show 857 + 4 * o < 1254 by omega) (by omega)), iI_lo (show 854 + 4 * o < 2147483648 by omega), iI_lo (show 855 + 4 * o < 2147483648 by omega), iI_lo (show 856 + 4 * o < 2147483648 by omega), iI_lo (show 857 + 4 * o < 2147483648 by omega), letB_e, up2_RF, ux, n4, e4, uI_s]
              have e5 : iI ((o : Int) + 1) - 1 = iI o := by rw [Z1, iI_sub]; refine congrArg iI ?_; omega
              rw [e5]
              unfold ordA
              rw [ho]
      · refine ⟨-1, a, n, H, L, t, vb.succ, OPC.same vc ?_, fun M1 vr => OPR.same vr ?_⟩
        · unfold f_X10_order
          rw [e_isProfile hX, bnd2_s, ify hx, e_inL 1 20000 hY Z1 Z20000 (by omega) (by omega), bnd2_s, ify hy, e_inL 0 500 hU Z0 Z500 (by omega) (by omega), bnd2_s, ifn hu]
        · unfold f_X11_order
          rw [r_inL 0 3 hX Z0 Z3 (by omega) (by omega), bnd2_s, ify hx, r_inL 1 20000 hY Z1 Z20000 (by omega) (by omega), bnd2_s, ify hy, r_inL 0 500 hU Z0 Z500 (by omega) (by omega), bnd2_s, ifn hu]
    · refine ⟨-1, a, n, H, L, t, vb.succ, OPC.same vc ?_, fun M1 vr => OPR.same vr ?_⟩
      · unfold f_X10_order
        rw [e_isProfile hX, bnd2_s, ify hx, e_inL 1 20000 hY Z1 Z20000 (by omega) (by omega), bnd2_s, ifn hy]
      · unfold f_X11_order
        rw [r_inL 0 3 hX Z0 Z3 (by omega) (by omega), bnd2_s, ify hx, r_inL 1 20000 hY Z1 Z20000 (by omega) (by omega), bnd2_s, ifn hy]
  · refine ⟨-1, a, n, H, L, t, vb.succ, OPC.same vc ?_, fun M1 vr => OPR.same vr ?_⟩
    · unfold f_X10_order
      rw [e_isProfile hX, bnd2_s, ifn hx]
    · unfold f_X11_order
      rw [r_inL 0 3 hX Z0 Z3 (by omega) (by omega), bnd2_s, ifn hx]
