section
/-! The call scrap. -/
theorem Bd_scB {k : Int} {a : Nat → Int} {j n : Nat} (h : Bd k a) (hj : j < n) (h8 : a 8 = n) (hw : a 6 + a 7 + (a (9 + 3 * j) + a (10 + 3 * j)) ≤ 20000) : Bd (k + 1) (scB a j n) := by
  have hM := h.1
  have hS := h.2.1
  have hL := h.2.2.1
  unfold BM at hM
  have hb := scA_b (hL j (by omega)) hS
  have hlo : ∀ q, q < 9 ∨ 45 ≤ q → q ≠ 4 → q ≠ 5 → q ≠ 6 → q ≠ 7 → q ≠ 8 → scB a j n q = a q := by
    intro q h1 h2 h3 h4 h5 h6
    rw [scB_lo h1 (by omega), if_neg h6, if_neg h4, if_neg h5, if_neg (by omega), scA_n (by omega)]
  refine h.lots (by omega) ?_ (fun i hi => ?_) (fun q hq => hlo q (by omega) (by omega) (by omega) (by omega) (by omega) (by omega))
  · unfold BM
    rw [hlo 0 (by omega) (by omega) (by omega) (by omega) (by omega) (by omega), hlo 1 (by omega) (by omega) (by omega) (by omega) (by omega) (by omega), hlo 52 (by omega) (by omega) (by omega) (by omega) (by omega) (by omega), hlo 53 (by omega) (by omega) (by omega) (by omega) (by omega) (by omega), scB_lo (q := 6) (by omega) (by omega), scB_lo (q := 7) (by omega) (by omega), scB_lo (q := 8) (by omega) (by omega)]
    simp only [if_pos, if_neg (show ¬ (6 : Nat) = 8 by omega), if_neg (show ¬ (7 : Nat) = 8 by omega), if_neg (show ¬ (7 : Nat) = 6 by omega)]
    omega
  · have sh : ∀ i, i ≠ j → i < 12 → BL (k + 1) (mv (scA a j) (9 + 3 * j) 6 (scA a j (9 + 3 * j)) (scA a j (10 + 3 * j))) i := by
      intro i h1 h2
      have hi2 := (hL i h2)
      have hi3 : BL (k + 1) a i := by unfold BL at hi2 ⊢; omega
      exact hi3.congr (fun q q1 q2 => by rw [mv_n (by omega) (by omega) (by omega) (by omega) (by omega), scA_n (by omega)])
    by_cases c : j ≤ i ∧ i + 1 < n
    · have h2 := sh (i + 1) (by omega) (by omega)
      unfold BL at h2 ⊢
      have e : ∀ q, 9 + 3 * i ≤ q → q < 12 + 3 * i → scB a j n q = mv (scA a j) (9 + 3 * j) 6 (scA a j (9 + 3 * j)) (scA a j (10 + 3 * j)) (q + 3) := fun q q1 q2 => by
        unfold scB rmv
        rw [if_neg (by omega), if_pos (by omega)]
      rw [e (9 + 3 * i) (by omega) (by omega), e (10 + 3 * i) (by omega) (by omega), e (11 + 3 * i) (by omega) (by omega), show 9 + 3 * i + 3 = 9 + 3 * (i + 1) by omega, show 10 + 3 * i + 3 = 10 + 3 * (i + 1) by omega, show 11 + 3 * i + 3 = 11 + 3 * (i + 1) by omega]
      exact h2
    · have e : ∀ q, 9 + 3 * i ≤ q → q < 12 + 3 * i → scB a j n q = mv (scA a j) (9 + 3 * j) 6 (scA a j (9 + 3 * j)) (scA a j (10 + 3 * j)) q := fun q q1 q2 => by
        unfold scB rmv
        rw [if_neg (by omega), if_neg (by omega)]
      by_cases d : i = j
      · subst d
        have hl := hL i (by omega)
        have z0 := mv_p (a := scA a i) (p := 9 + 3 * i) (q := 6) (c := scA a i (9 + 3 * i)) (t := scA a i (10 + 3 * i)) (by omega)
        have z1 := mv_p1 (a := scA a i) (p := 9 + 3 * i) (q := 6) (c := scA a i (9 + 3 * i)) (t := scA a i (10 + 3 * i)) (by omega)
        rw [show 9 + 3 * i + 1 = 10 + 3 * i by omega] at z1
        unfold BL at hl ⊢
        rw [e (9 + 3 * i) (by omega) (by omega), e (10 + 3 * i) (by omega) (by omega), e (11 + 3 * i) (by omega) (by omega), z0, z1, mv_n (x := 11 + 3 * i) (by omega) (by omega) (by omega) (by omega) (by omega), scA_n (q := 11 + 3 * i) (by omega)]
        omega
      · exact (sh i d hi).congr e
theorem o_scrap {k : Int} (hk : k ≤ 1000) (x : Int32) : CALL k (fun M => f_X10_scrap M x) (fun M => f_X11_scrap M x) := by
  apply both
  intro M a n H L t vc vb
  obtain ⟨X, hX, rfl⟩ := ofI x
  have R := vc.1
  have hB := vb.1.1
  unfold BM at hB
  have hS := vb.1.2.1
  by_cases hx : 0 ≤ X ∧ X ≤ a 8 - 1
  · obtain ⟨j, rfl⟩ : ∃ j : Nat, X = j := ⟨X.toNat, by omega⟩
    obtain ⟨m, hm⟩ : ∃ m : Nat, a 8 = m := ⟨(a 8).toNat, by omega⟩
    have hj : j < (a 8).toNat := by omega
    have hjm : j < m := by omega
    have hl := vb.1.2.2.1 j (by omega)
    have hl' := hl
    unfold BL at hl'
    have hb := scA_b hl hS
    have e9 : (9 : Int32) + 3 * iI (j : Int) = iI ((9 + 3 * j : Nat)) := by rw [Z9, Z3, iI_mul, iI_add]; congr 1
    have e11 : iI ((9 + 3 * j : Nat) : Int) + 2 = iI ((11 + 3 * j : Nat)) := by rw [Z2, iI_add]; congr 1; omega
    have e10 : iI ((9 + 3 * j : Nat) : Int) + 1 = iI ((10 + 3 * j : Nat)) := by rw [Z1, iI_add]; congr 1; omega
    have v9 : vin (iI ((9 + 3 * j : Nat))) 1254 := vinI (by omega) (by omega)
    have v10 : vin (iI ((10 + 3 * j : Nat))) 1254 := vinI (by omega) (by omega)
    have v11 : vin (iI ((11 + 3 * j : Nat))) 1254 := vinI (by omega) (by omega)
    have t9 : (iI ((9 + 3 * j : Nat))).toNatClampNeg = 9 + 3 * j := iI_lo (by omega)
    have t10 : (iI ((10 + 3 * j : Nat))).toNatClampNeg = 10 + 3 * j := iI_lo (by omega)
    have t11 : (iI ((11 + 3 * j : Nat))).toNatClampNeg = 11 + 3 * j := iI_lo (by omega)
    have cw : f_X6_weight M 0 (9 + 3 * pm (M 50) j) = some (iI (a (9 + 3 * j) + a (10 + 3 * j)), M) := by rw [e_weight, R.l0 hj, R.l1 hj, iI_add]
    have cm : f_X6_weight M 0 6 = some (iI (a 6 + a 7), M) := by rw [e_weight, R.lo (by omega), R.lo (by omega), iI_add]
    by_cases c : a 6 + a 7 + (a (9 + 3 * j) + a (10 + 3 * j)) ≤ 20000
    · have c' : iI (a 6 + a 7 + (a (9 + 3 * j) + a (10 + 3 * j))) ≤ 20000 := by rw [Z20000, iI_le (by omega) (by omega)]; exact c
      have f6 : scB a j m 6 = a 6 + scA a j (9 + 3 * j) := by rw [scB_lo (by omega) (by omega), if_neg (by omega), if_pos rfl]
      have f7 : scB a j m 7 = a 7 + scA a j (10 + 3 * j) := by rw [scB_lo (by omega) (by omega), if_neg (by omega), if_neg (by omega), if_pos rfl]
      refine ⟨iI (scB a j m 6 + scB a j m 7), scB a j m, pN n, pH n H a, L, t, vb.push (by omega) (Bd_scB vb.1 hjm hm c), ?_, fun M1 vr => ?_⟩
      · obtain ⟨M1, k1, v1, f1⟩ := c_keep' vc vb
        have e50 : M1 50 = M 50 := f1 50 (by omega) (by omega) (by omega) (by omega)
        obtain ⟨M2, k2, w2⟩ := c_meltDown hk v1.1 hj hl hS
        rw [e50] at k2
        obtain ⟨M3, k3, w3⟩ := c_remove w2.1 (j := j) (n := m) (by rw [uI_n (by omega), uI_n (by omega), scA_n (by omega)]; exact hm) hjm
        have w4 : CW M1 M3 (scB a j m) := by
          refine (w2.trans w3).cong (fun q hq => scB_w hjm (by omega) hm q ?_)
          have e8 : rmv (uI (uI (scA a j) 6 (a 6 + scA a j (9 + 3 * j))) 7 (a 7 + scA a j (10 + 3 * j))) j m 8 = a 8 - 1 := by
            unfold rmv; rw [if_pos rfl, uI_n (by omega), uI_n (by omega), scA_n (by omega)]
          rw [e8] at hq
          omega
        refine OPC.go v1 f1.FC (M2 := M3) ?_ w4
        unfold f_X10_scrap optE
        rw [lotAt_some R hj, bnd2_s]
        simp only
        rw [cm, bnd2_s, cw, bnd2_s, iI_add, if_pos c', k1, bnd2_s, k2, bnd2_s, k3, bnd2_s, e_weight, bnd2_s, w4.1.lo (by omega), w4.1.lo (by omega), iI_add]
      · obtain ⟨M2, k2, v2', f2⟩ := r_keep' vb.2.1 vr
        refine OPR.go2 (f := fun M => f_X11_scrap M (iI j)) vr v2' f2 ?_
        have hlast : ∀ b : Nat → Int, b = scA a j → (bnd2 (f_X11_moves (RF M2 b) (iI ((9 + 3 * j : Nat))) 6 (RF M2 b 21 (9 + 3 * j)) (RF M2 b 21 (10 + 3 * j))) fun _ M31 => (if vin (8 : Int32) 1254 then (if vin (8 : Int32) 1254 then (letB (up2 M31 21 (8 : Int32).toNatClampNeg ((M31 21 (8 : Int32).toNatClampNeg) - (1))) fun M35 => (lp_X11_scrap_93 FU M35 (iI j) (iI ((9 + 3 * j : Nat))) (iI ((9 + 3 * j : Nat))))) else none) else none)) = some (iI (scB a j m 6 + scB a j m 7), RF M2 (scB a j m)) := by
          intro b hb
          subst hb
          have v8 : vin (8 : Int32) 1254 := by decide
          have t8 : (8 : Int32).toNatClampNeg = 8 := by decide
          rw [RF_21, RF_21, show (6 : Int32) = iI ((6 : Nat) : Int) from rfl, r_moves (by omega) (by omega), bnd2_s, if_pos v8, if_pos v8, t8, RF_21, Z1, iI_sub, up2_RF, letB_e]
          obtain ⟨b2, hb2⟩ : ∃ b2, b2 = mv (scA a j) (9 + 3 * j) 6 (scA a j (9 + 3 * j)) (scA a j (10 + 3 * j)) := ⟨_, rfl⟩
          rw [← hb2]
          have b8 : b2 8 = m := by rw [hb2, mv_n (by omega) (by omega) (by omega) (by omega) (by omega), scA_n (by omega)]; exact hm
          rw [l_scrap (n := m - 1) (by omega) (iI j) (iI ((9 + 3 * j : Nat))) (3 * (m - 1) - 3 * j) FU (9 + 3 * j) _ (by omega) (by omega) (by unfold FU; omega) (by rw [uI_s, b8]; omega), show 9 + 3 * (m - 1) = 6 + 3 * m by omega, shf_rmv]
          have e : rmv b2 j m = scB a j m := by unfold scB; rw [hb2]
          have e6 : scB a j m 6 = b2 6 := by rw [← e]; unfold rmv; rw [if_neg (by omega), if_neg (by omega)]
          have e7 : scB a j m 7 = b2 7 := by rw [← e]; unfold rmv; rw [if_neg (by omega), if_neg (by omega)]
          rw [e, e6, e7, uI_n (by omega), uI_n (by omega)]
        show f_X11_scrap _ _ = _
        unfold f_X11_scrap
        rw [r_isLot hX (by omega), bnd2_s, ify hx, r_weight6, bnd2_s, e9, r_weightL (by omega), bnd2_s, iI_add, if_pos c', k2, bnd2_s, e11, if_pos v11, t11, RF_21]
        by_cases d : a (11 + 3 * j) = 1
        · have eA : mv a (9 + 3 * j) 4 (sh (a (9 + 3 * j)) (a 45)) (sh (a (9 + 3 * j + 1)) (a 46)) = scA a j := by
            unfold scA
            rw [if_pos d, show 9 + 3 * j + 1 = 10 + 3 * j by omega]
          have nn : a (9 + 3 * j + 1) = a (10 + 3 * j) := by rw [show 9 + 3 * j + 1 = 10 + 3 * j by omega]
          rw [if_pos (by rw [d]; rfl), r_burns (by omega) (by omega) (by omega) (by omega) (by omega) hS, bnd2_s, if_pos v9, e10, if_pos v10, t9, t10, eA]
          exact hlast _ rfl
        · have eA : a = scA a j := by unfold scA; rw [if_neg d]
          rw [if_neg (by rw [Z1, iI_inj (by omega) (by omega)]; exact d), if_pos v9, e10, if_pos v10, t9, t10]
          exact hlast _ eA
    · have c' : ¬ iI (a 6 + a 7 + (a (9 + 3 * j) + a (10 + 3 * j))) ≤ 20000 := by rw [Z20000, iI_le (by omega) (by omega)]; exact c
      refine ⟨-3, a, n, H, L, t, vb.succ, OPC.same vc ?_, fun M1 vr => OPR.go (f := fun M => f_X11_scrap M (iI j)) vr ?_⟩
      · unfold f_X10_scrap optE
        rw [lotAt_some R hj, bnd2_s]
        simp only
        rw [cm, bnd2_s, cw, bnd2_s, iI_add, if_neg c']
      · show f_X11_scrap _ _ = _
        unfold f_X11_scrap
        rw [r_isLot hX (by omega), bnd2_s, ify hx, r_weight6, bnd2_s, e9, r_weightL (by omega), bnd2_s, iI_add, if_neg c']
  · refine ⟨-1, a, n, H, L, t, vb.succ, OPC.same vc ?_, fun M1 vr => OPR.go (f := fun M => f_X11_scrap M (iI X)) vr ?_⟩
    · unfold f_X10_scrap optE
      rw [lotAt_none R (by omega) hX hx, bnd2_s]
    · show f_X11_scrap _ _ = _
      unfold f_X11_scrap
      rw [r_isLot hX (by omega), bnd2_s, ifn hx]
end
