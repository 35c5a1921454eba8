/-! The calls: charge, set, melt, lot, bell. -/
theorem o_charge {k : Int} (x y : Int32) : CALL k (fun M => f_X10_charge M x y) (fun M => f_X11_charge M x y) := by
  apply both
  intro M a n H L t vc vb
  obtain ⟨X, hX, rfl⟩ := ofI x
  obtain ⟨Y, hY, rfl⟩ := ofI y
  have R := vc.1
  have hB := vb.1.1
  unfold BM at hB
  by_cases hx : 0 ≤ X ∧ X ≤ 1
  · by_cases hy : 1 ≤ Y ∧ Y ≤ 20000
    · obtain ⟨m, rfl⟩ : ∃ m : Nat, X = m := ⟨X.toNat, by omega⟩
      have hm : m = 0 ∨ m = 1 := by omega
      have am : 0 ≤ a m ∧ a m ≤ 1000000 := by rcases hm with rfl | rfl <;> omega
      have e0 : (0 : Int32) + iI (m : Int) = iI (m : Int) := by rw [Z0, iI_add]; congr 1; omega
      have e2 : (6 : Int32) + iI (m : Int) = iI ((6 + m : Nat)) := by rw [Z6, iI_add]; congr 1
      have v0 : vin (iI (m : Int)) 1254 := vinI (by omega) (by omega)
      have v2 : vin (iI ((6 + m : Nat))) 1254 := vinI (by omega) (by omega)
      have t0 : (iI (m : Int)).toNatClampNeg = m := iI_lo (by omega)
      have t2 : (iI ((6 + m : Nat))).toNatClampNeg = 6 + m := iI_lo (by omega)
      have ew : ∀ M, f_X6_weight M 0 6 = some (M 0 6 + M 0 7, M) := fun M => e_weight M 0 6
      by_cases d : a m < Y
      · have d' : ¬ iI Y ≤ iI (a m) := by rw [iI_le (by omega) (by omega)]; omega
        refine ⟨-2, a, n, H, L, t, vb.succ, OPC.same vc ?_, fun M1 vr => OPR.go (f := fun M => f_X11_charge M (iI m) (iI Y)) vr ?_⟩
        · unfold f_X10_charge
          rw [e_isMetal hX, bnd2_s, ify hx, e_inL 1 20000 hY Z1 Z20000 (by omega) (by omega), bnd2_s, ify hy, c_of M 0 0 (by omega), bnd2_s, Nat.zero_add, R.lo (by omega), if_neg d']
        · show f_X11_charge _ _ _ = _
          unfold f_X11_charge
          rw [r_isMetal hX, bnd2_s, ify hx, r_inL 1 20000 hY Z1 Z20000 (by omega) (by omega), bnd2_s, ify hy]
          simp only [e0, if_pos v0, t0, RF_21, iI_add, if_neg d']
      · have d' : iI Y ≤ iI (a m) := by rw [iI_le (by omega) (by omega)]; omega
        by_cases c : a 6 + a 7 + Y ≤ 20000
        · have c' : iI (a 6 + a 7 + Y) ≤ 20000 := by rw [Z20000, iI_le (by omega) (by omega)]; exact c
          refine ⟨iI (a 6 + a 7 + Y), uI (uI a m (a m - Y)) (6 + m) (a (6 + m) + Y), pN n, pH n H a, L, t, vb.push (by omega) (vb.1.lo (by omega) ?_ ?_), ?_, fun M1 vr => ?_⟩
          · rcases hm with rfl | rfl <;> (unfold BM; simp [uI]; omega)
          · intro q hq; rw [uI_n (by omega), uI_n (by omega)]
          · obtain ⟨M1, k1, v1, f1⟩ := c_keep' vc vb
            obtain ⟨M2, k2, w2⟩ := c_put v1.1 (q := 0) (m := m) (by omega) (by omega) (-Y)
            obtain ⟨M3, k3, w3⟩ := c_put w2.1 (q := 6) (m := m) (by omega) (by omega) Y
            refine OPC.go v1 f1.FC (M2 := M3) ?_ ?_
            · unfold f_X10_charge
              rw [e_isMetal hX, bnd2_s, ify hx, e_inL 1 20000 hY Z1 Z20000 (by omega) (by omega), bnd2_s, ify hy, c_of M 0 0 (by omega), bnd2_s, Nat.zero_add, R.lo (by omega), if_pos d', ew, bnd2_s, R.lo (by omega), R.lo (by omega), iI_add, iI_add, if_pos c', k1, bnd2_s, iI_neg, k2, bnd2_s, k3, bnd2_s, ew, bnd2_s, w3.1.lo (by omega), w3.1.lo (by omega), iI_add]
              refine congrArg (fun z => some (iI z, M3)) ?_
              rcases hm with rfl | rfl
              · simp [uI]; omega
              · simp [uI]; omega
            · have w := w2.trans w3
              rw [Nat.zero_add, uI_n (show 6 + m ≠ m by omega), show a m + -Y = a m - Y by omega] at w
              exact w
          · obtain ⟨M2, k2, v2', f2⟩ := r_keep' vb.2.1 vr
            refine OPR.go2 (f := fun M => f_X11_charge M (iI m) (iI Y)) vr v2' f2 ?_
            show f_X11_charge _ _ _ = _
            unfold f_X11_charge
            rw [r_isMetal hX, bnd2_s, ify hx, r_inL 1 20000 hY Z1 Z20000 (by omega) (by omega), bnd2_s, ify hy]
            simp only [e0, e2, if_pos v0, if_pos v2, t0, t2, RF_21, r_weight6, iI_add, iI_sub, if_pos c', if_pos d', k2, bnd2_s, letB_e, up2_RF, uI_s, uI_n (show 6 + m ≠ m by omega)]
            refine congrArg (fun z => some (iI z, RF M2 (uI (uI a m (a m - Y)) (6 + m) (a (6 + m) + Y)))) ?_
            rcases hm with rfl | rfl
            · simp [uI]; omega
            · simp [uI]; omega
        · have c' : ¬ iI (a 6 + a 7 + Y) ≤ 20000 := by rw [Z20000, iI_le (by omega) (by omega)]; exact c
          refine ⟨-3, a, n, H, L, t, vb.succ, OPC.same vc ?_, fun M1 vr => OPR.go (f := fun M => f_X11_charge M (iI m) (iI Y)) vr ?_⟩
          · unfold f_X10_charge
            rw [e_isMetal hX, bnd2_s, ify hx, e_inL 1 20000 hY Z1 Z20000 (by omega) (by omega), bnd2_s, ify hy, c_of M 0 0 (by omega), bnd2_s, Nat.zero_add, R.lo (by omega), if_pos d', ew, bnd2_s, R.lo (by omega), R.lo (by omega), iI_add, iI_add, if_neg c']
          · show f_X11_charge _ _ _ = _
            unfold f_X11_charge
            rw [r_isMetal hX, bnd2_s, ify hx, r_inL 1 20000 hY Z1 Z20000 (by omega) (by omega), bnd2_s, ify hy]
            simp only [e0, if_pos v0, t0, RF_21, r_weight6, iI_add, bnd2_s, if_pos d', if_neg c']
    · refine ⟨-1, a, n, H, L, t, vb.succ, OPC.same vc ?_, fun M1 vr => OPR.same vr ?_⟩
      · unfold f_X10_charge
        rw [e_isMetal hX, bnd2_s, ify hx, e_inL 1 20000 hY Z1 Z20000 (by omega) (by omega), bnd2_s, ifn hy]
      · unfold f_X11_charge
        rw [r_isMetal hX, bnd2_s, ify hx, r_inL 1 20000 hY Z1 Z20000 (by omega) (by omega), bnd2_s, ifn hy]
  · refine ⟨-1, a, n, H, L, t, vb.succ, OPC.same vc ?_, fun M1 vr => OPR.same vr ?_⟩
    · unfold f_X10_charge
      rw [e_isMetal hX, bnd2_s, ifn hx]
    · unfold f_X11_charge
      rw [r_isMetal hX, bnd2_s, ifn hx]
def sLo (j : Nat) : Int := if j < 5 then 0 else 1
def sHi (j : Nat) : Int := if j = 0 then 50 else if j = 1 then 100 else if j < 4 then 1000 else if j = 4 then 300 else if j = 5 then 50 else 20000
theorem sFrom_e : ∀ j : Nat, j < 7 → sFrom j = iI (sLo j) := by decide +kernel
theorem sTo_e : ∀ j : Nat, j < 7 → sTo j = iI (sHi j) := by decide +kernel
theorem r_mostOf (M : MM) {j : Nat} (h : j < 7) : f_X11_mostOf M (iI j) = some (iI (sHi j), M) := by
  have h2 : j = 0 ∨ j = 1 ∨ j = 2 ∨ j = 3 ∨ j = 4 ∨ j = 5 ∨ j = 6 := by omega
  unfold f_X11_mostOf
  rcases h2 with rfl | rfl | rfl | rfl | rfl | rfl | rfl <;> rfl
theorem BS_set {a : Nat → Int} {j : Nat} {Y : Int} (h : BS a) (hj : j < 7) (hY : sLo j ≤ Y ∧ Y ≤ sHi j) : BS (uI a (45 + j) Y) := by
  unfold BS at *
  have h2 : j = 0 ∨ j = 1 ∨ j = 2 ∨ j = 3 ∨ j = 4 ∨ j = 5 ∨ j = 6 := by omega
  rcases h2 with rfl | rfl | rfl | rfl | rfl | rfl | rfl <;> (simp [sLo, sHi] at hY; simp [uI]; omega)
theorem Bd.set {k k' : Int} {a : Nat → Int} {j : Nat} {Y : Int} (h : Bd k a) (hk : k ≤ k') (hj : j < 7) (hY : sLo j ≤ Y ∧ Y ≤ sHi j) : Bd k' (uI a (45 + j) Y) := by
  obtain ⟨h1, h2, h3, h4, h5, h6, h7⟩ := h.mono hk
  have e : ∀ q, (q < 45 ∨ 52 ≤ q) → uI a (45 + j) Y q = a q := fun q hq => uI_n (by omega)
  refine ⟨?_, BS_set h2 hj hY, fun i hi => ?_, fun b hb => ?_, fun o ho => ?_, ?_, ?_⟩
  · unfold BM at h1 ⊢
    rw [e 0 (by omega), e 1 (by omega), e 6 (by omega), e 7 (by omega), e 8 (by omega), e 52 (by omega), e 53 (by omega)]
    exact h1
  · have := h3 i hi
    unfold BL at this ⊢
    rw [e (9 + 3 * i) (by omega), e (10 + 3 * i) (by omega), e (11 + 3 * i) (by omega)]
    exact this
  · rw [e 52 (by omega)] at hb
    have := h4 b hb
    unfold BB at this ⊢
    rw [e (54 + 8 * b) (by omega), e (55 + 8 * b) (by omega), e (56 + 8 * b) (by omega), e (57 + 8 * b) (by omega), e (58 + 8 * b) (by omega), e (59 + 8 * b) (by omega), e (60 + 8 * b) (by omega), e (61 + 8 * b) (by omega)]
    exact this
  · rw [e 53 (by omega)] at ho
    have := h5 o ho
    unfold BO at this ⊢
    rw [e (854 + 4 * o) (by omega), e (855 + 4 * o) (by omega), e (856 + 4 * o) (by omega), e (857 + 4 * o) (by omega)]
    exact this
  · unfold hereN at h6 ⊢
    rw [e 52 (by omega), cn_congr (Q := hereP a) (fun i hi => by unfold hereP; rw [e _ (by omega)])]
    exact h6
  · unfold openN at h7 ⊢
    rw [e 53 (by omega), cn_congr (Q := openP a) (fun i hi => by unfold openP; rw [e _ (by omega)])]
    exact h7
theorem o_set {k : Int} (x y : Int32) : CALL k (fun M => f_X10_set M x y) (fun M => f_X11_set M x y) := by
  apply both
  intro M a n H L t vc vb
  obtain ⟨X, hX, rfl⟩ := ofI x
  obtain ⟨Y, hY, rfl⟩ := ofI y
  have R := vc.1
  have h71 : (7 : Int32) - 1 = iI 6 := rfl
  by_cases hx : 0 ≤ X ∧ X ≤ 6
  · obtain ⟨j, rfl⟩ : ∃ j : Nat, X = j := ⟨X.toNat, by omega⟩
    have hj : j < 7 := by omega
    have tj : (iI (j : Int)).toNatClampNeg = j := iI_lo (by omega)
    have vj : vin (iI (j : Int)) 7 := vinI (by omega) (by omega)
    have sf : sFrom (iI (j : Int)).toNatClampNeg = iI (sLo j) := by rw [tj]; exact sFrom_e j hj
    have sT : sTo (iI (j : Int)).toNatClampNeg = iI (sHi j) := by rw [tj]; exact sTo_e j hj
    have bl : B31 (sLo j) := by unfold sLo; split <;> omega
    have bh : B31 (sHi j) := by unfold sHi; split <;> (try split) <;> (try split) <;> (try split) <;> (try split) <;> omega
    have e45 : (45 : Int32) + iI (j : Int) = iI ((45 + j : Nat)) := by rw [Z45, iI_add]; congr 1
    have v45 : vin (iI ((45 + j : Nat))) 1254 := vinI (by omega) (by omega)
    have t45 : (iI ((45 + j : Nat))).toNatClampNeg = 45 + j := iI_lo (by omega)
    have rIn : ∀ M : MM, (if 5 ≤ j then f_X11_in M (iI Y) 1 (iI (sHi j)) else f_X11_in M (iI Y) 0 (iI (sHi j))) = some (dI (sLo j ≤ Y ∧ Y ≤ sHi j), M) := by
      intro M
      by_cases c : 5 ≤ j
      · rw [if_pos c, r_inL 1 (sHi j) hY Z1 rfl (by omega) bh]; unfold sLo; simp only [if_neg (show ¬ j < 5 by omega)]
      · rw [if_neg c, r_inL 0 (sHi j) hY Z0 rfl (by omega) bh]; unfold sLo; simp only [if_pos (show j < 5 by omega)]
    by_cases hy : sLo j ≤ Y ∧ Y ≤ sHi j
    · refine ⟨iI (a (45 + j)), uI a (45 + j) Y, pN n, pH n H a, L, t, vb.push (by omega) (vb.1.set (by omega) hj hy), ?_, fun M1 vr => ?_⟩
      · obtain ⟨M1, k1, v1, f1⟩ := c_keep' vc vb
        refine OPC.go v1 f1.FC (M2 := up2 M1 40 j (iI Y)) ?_ ⟨?_, fun G g1 g2 g3 g4 g5 => up2_gn g2⟩
        · unfold f_X10_set
          rw [e_inL 0 6 hX Z0 h71 (by omega) (by omega), bnd2_s, ify hx, if_pos vj, if_pos vj, sf, sT, e_isIn hY bl bh, bnd2_s, ify hy, k1, bnd2_s, if_pos vj, if_pos vj]
          simp only [tj, letB_e, Nat.add_zero, v1.1.se hj]
        · rw [up2_gn (by omega), up2_gr, up2_gn (by omega)]; exact v1.1.u_set _ hj
      · obtain ⟨M2, k2, v2', f2⟩ := r_keep' vb.2.1 vr
        refine OPR.go2 (f := fun M => f_X11_set M (iI j) (iI Y)) vr v2' f2 ?_
        show f_X11_set _ _ _ = _
        have rI := rIn (RF M1 a)
        unfold f_X11_set
        rw [r_inL 0 6 hX Z0 Z6 (by omega) (by omega), bnd2_s, ify hx]
        by_cases c : 5 ≤ j
        · rw [if_pos (by rw [Z5, iI_le (by omega) (by omega)]; omega), r_mostOf _ hj, bnd2_s]
          rw [if_pos c] at rI
          rw [rI, bnd2_s, ify hy, k2, bnd2_s, r_setN hj, bnd2_s]
          simp only [e45, if_pos v45, t45, letB_e, up2_RF]
        · rw [if_neg (by rw [Z5, iI_le (by omega) (by omega)]; omega), r_mostOf _ hj, bnd2_s]
          rw [if_neg c] at rI
          rw [rI, bnd2_s, ify hy, k2, bnd2_s, r_setN hj, bnd2_s]
          simp only [e45, if_pos v45, t45, letB_e, up2_RF]
    · refine ⟨-1, a, n, H, L, t, vb.succ, OPC.same vc ?_, fun M1 vr => OPR.same vr ?_⟩
      · unfold f_X10_set
        rw [e_inL 0 6 hX Z0 h71 (by omega) (by omega), bnd2_s, ify hx, if_pos vj, if_pos vj, sf, sT, e_isIn hY bl bh, bnd2_s, ifn hy]
      · have rI := rIn M1
        unfold f_X11_set
        rw [r_inL 0 6 hX Z0 Z6 (by omega) (by omega), bnd2_s, ify hx]
        by_cases c : 5 ≤ j
        · rw [if_pos (by rw [Z5, iI_le (by omega) (by omega)]; omega), r_mostOf _ hj, bnd2_s]
          rw [if_pos c] at rI
          rw [rI, bnd2_s, ifn hy]
        · rw [if_neg (by rw [Z5, iI_le (by omega) (by omega)]; omega), r_mostOf _ hj, bnd2_s]
          rw [if_neg c] at rI
          rw [rI, bnd2_s, ifn hy]
  · refine ⟨-1, a, n, H, L, t, vb.succ, OPC.same vc ?_, fun M1 vr => OPR.same vr ?_⟩
    · unfold f_X10_set
      rw [e_inL 0 6 hX Z0 h71 (by omega) (by omega), bnd2_s, ifn hx]
    · unfold f_X11_set
      rw [r_inL 0 6 hX Z0 Z6 (by omega) (by omega), bnd2_s, ifn hx]
