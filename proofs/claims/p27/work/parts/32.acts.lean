/-! What the class's changes answer and leave. -/
def PU (k : Int) (M1 : MM) (a a' : Nat → Int) (n : Nat) (H : Nat → Nat → Int) (L : Nat) (t : Nat → Int) : Prop := VC M1 a' (pN n) (pH n H a) L t ∧ VB (k + 1) a' (pN n) (pH n H a) L t
def buyA (a : Nat → Int) (m : Nat) (Y : Int) : Nat → Int := uI (uI a m (a m + Y)) (2 + m) (a (2 + m) + Y)
def chaA (a : Nat → Int) (m : Nat) (Y : Int) : Nat → Int := uI (uI a m (a m - Y)) (6 + m) (a (6 + m) + Y)
def senA (a : Nat → Int) (b o : Nat) : Nat → Int := uI (uI (uI a (60 + 8 * b) 2) (61 + 8 * b) o) (857 + 4 * o) 1
def tunA (a : Nat → Int) (b : Nat) (y : Int) : Nat → Int := dsc (tuA a b (tlow a b y) (if crk (a (59 + 8 * b)) y (a (56 + 8 * b)) (a (58 + 8 * b)) then 1 else 0) (a (59 + 8 * b) + y)) (54 + 8 * b) y 1
def albA (a : Nat → Int) (y : Int) : Int := alo (cin y (bC a) (bT a)) (y - cin y (bC a) (bT a))
def pouA (a : Nat → Int) (b : Nat) (x y : Int) : Nat → Int := poF a b x y (pit x (rtI y) (albA a y)) (if a 47 ≤ albA a y ∧ albA a y ≤ a 48 then 0 else 1)
theorem lowA_lowA (h b : Nat → Int) : lowA (lowA h b) h = h := by funext q; unfold lowA; split <;> rfl
theorem pN_pos (n : Nat) : 0 < pN n := by unfold pN; split <;> omega
theorem pH_top (n : Nat) (H : Nat → Nat → Int) (a : Nat → Int) : pH n H a (pN n - 1) = a := by
  unfold pH pN
  by_cases e : n = 4
  · rw [if_pos e, if_pos e, if_pos rfl]
  · rw [if_neg e, if_neg e, Nat.add_sub_cancel, if_pos rfl]
theorem rtI_eq {w r : Int} (hw : 0 ≤ w) (hw2 : w ≤ 20000) (h : isRt (1000000 * w) r) : r = rtI w := rt_un h (rtI_is hw hw2)
section ACS
variable {k : Int} {M : MM} {a : Nat → Int} {n : Nat} {H : Nat → Nat → Int} {L : Nat} {t : Nat → Int}
theorem PU.of {o : Option (Int32 × MM)} {r : Int32} {a' : Nat → Int} (h : OPC o M r a' (pN n) (pH n H a) L t) (b : VB (k + 1) a' (pN n) (pH n H a) L t) : ∃ M1, o = some (r, M1) ∧ PU k M1 a a' n H L t := by
  obtain ⟨M1, e, v, -⟩ := h
  exact ⟨M1, e, v, b⟩
theorem s_undo (vc : VC M a n H L t) (vb : VB k a n H L t) (hn : 0 < n) : ∃ M1, f_X10_undo M = some (iI ((n - 1 : Nat)), M1) ∧ VC M1 (H (n - 1)) (n - 1) H L t ∧ VB k (H (n - 1)) (n - 1) H L t := by
  have hn4 := vb.2.1
  obtain ⟨M1, e1, c1, f1⟩ := c_restore hn vc vb
  have hB := vb.2.2.1 (n - 1) (by omega)
  refine ⟨M1, ?_, ⟨?_, c1.2⟩, ⟨hB, by omega, fun i hi => vb.2.2.1 i (by omega), vb.2.2.2⟩⟩
  · unfold f_X10_undo
    rw [vc.2.1.1, if_neg (by rw [Z0, iI_inj (by omega) (by omega)]; omega), e1, bnd2_s, c1.2.1.1]
  · have h := c1.1.low (b := H (n - 1)) hB.low
    rwa [lowA_lowA] at h
theorem s_undo_no (vc : VC M a 0 H L t) : f_X10_undo M = some (-2, M) := by
  unfold f_X10_undo; rw [vc.2.1.1, if_pos (by decide)]
/-- behind a change: back -/
theorem PU.undo {a' : Nat → Int} (h : PU k M a a' n H L t) (hb : Bd k a) : ∃ M1, f_X10_undo M = some (iI ((pN n - 1 : Nat)), M1) ∧ VC M1 a (pN n - 1) (pH n H a) L t ∧ VB (k + 1) a (pN n - 1) (pH n H a) L t := by
  have h2 := s_undo h.1 h.2 (pN_pos n)
  rwa [pH_top] at h2
theorem s_buy (vc : VC M a n H L t) (vb : VB k a n H L t) {m : Nat} (hm : m ≤ 1) {Y : Int} (hy : 1 ≤ Y ∧ Y ≤ 100000) (c : a m + Y ≤ 1000000) : ∃ M1, f_X10_buy M (iI m) (iI Y) = some (iI (a m + Y), M1) ∧ PU k M1 a (buyA a m Y) n H L t := by
  have R := vc.1
  have hB := vb.1.1
  unfold BM at hB
  have hm' : m = 0 ∨ m = 1 := by omega
  have am : 0 ≤ a m ∧ a m ≤ 1000000 := by rcases hm' with rfl | rfl <;> omega
  have c' : iI (a m + Y) ≤ 1000000 := by rw [Z1000000, iI_le (by omega) (by omega)]; exact c
  refine PU.of (M := M) ?_ (vb.push (by omega) (vb.1.lo (by omega) ?_ ?_))
  · obtain ⟨M1, k1, v1, f1⟩ := c_keep' vc vb
    obtain ⟨M2, k2, w2⟩ := c_put v1.1 (q := 2) (m := m) (by omega) (by omega) Y
    obtain ⟨M3, k3, w3⟩ := c_put w2.1 (q := 0) (m := m) (by omega) (by omega) Y
    refine OPC.go v1 f1.FC (M2 := M3) ?_ ?_
    · unfold f_X10_buy
      rw [e_isMetal (by omega), bnd2_s, ify (by omega), e_inL 1 100000 (by omega) Z1 Z100000 (by omega) (by omega), bnd2_s, ify hy, c_of M 0 0 (by omega), bnd2_s, Nat.zero_add, R.lo (by omega), iI_add, if_pos c', k1, bnd2_s, k2, bnd2_s, k3, bnd2_s, c_of M3 0 0 (by omega), bnd2_s, Nat.zero_add, w3.1.lo (by omega), Nat.zero_add, uI_s, uI_n (by omega)]
    · have w := w2.trans w3
      rw [Nat.zero_add, uI_n (show m ≠ 2 + m by omega), uI_comm (by omega)] at w
      exact w
  · rcases hm' with rfl | rfl <;> (unfold BM; simp [buyA, uI]; omega)
  · intro q hq; unfold buyA; rw [uI_n (by omega), uI_n (by omega)]
theorem s_buy_no (hm : 0 = 0) : f_X10_buy M 0 0 = some (-1, M) := by
  unfold f_X10_buy
  rw [show f_X10_isMetal M 0 = _ from e_isMetal (x := 0) (by omega), bnd2_s, ify (by omega), show f_X10_isIn M 0 1 100000 = _ from e_inL (x := 0) 1 100000 (by omega) Z1 Z100000 (by omega) (by omega), bnd2_s, ifn (by omega)]
theorem s_charge_lo (vc : VC M a n H L t) (vb : VB k a n H L t) {m : Nat} (hm : m ≤ 1) {Y : Int} (hy : 1 ≤ Y ∧ Y ≤ 20000) (d : a m < Y) : f_X10_charge M (iI m) (iI Y) = some (-2, M) := by
  have R := vc.1
  have hB := vb.1.1
  unfold BM at hB
  have hm' : m = 0 ∨ m = 1 := by omega
  have am : 0 ≤ a m ∧ a m ≤ 1000000 := by rcases hm' with rfl | rfl <;> omega
  have d' : ¬ iI Y ≤ iI (a m) := by rw [iI_le (by omega) (by omega)]; omega
  unfold f_X10_charge
  rw [e_isMetal (by omega), bnd2_s, ify (by omega), e_inL 1 20000 (by omega) Z1 Z20000 (by omega) (by omega), bnd2_s, ify hy, c_of M 0 0 (by omega), bnd2_s, Nat.zero_add, R.lo (by omega), if_neg d']
theorem s_charge_hi (vc : VC M a n H L t) (vb : VB k a n H L t) {m : Nat} (hm : m ≤ 1) {Y : Int} (hy : 1 ≤ Y ∧ Y ≤ 20000) (d : Y ≤ a m) (c : ¬ a 6 + a 7 + Y ≤ 20000) : f_X10_charge M (iI m) (iI Y) = some (-3, M) := by
  have R := vc.1
  have hB := vb.1.1
  unfold BM at hB
  have hm' : m = 0 ∨ m = 1 := by omega
  have am : 0 ≤ a m ∧ a m ≤ 1000000 := by rcases hm' with rfl | rfl <;> omega
  have d' : iI Y ≤ iI (a m) := by rw [iI_le (by omega) (by omega)]; omega
  have ew : ∀ M, f_X6_weight M 0 6 = some (M 0 6 + M 0 7, M) := fun M => e_weight M 0 6
  have c' : ¬ iI (a 6 + a 7 + Y) ≤ 20000 := by rw [Z20000, iI_le (by omega) (by omega)]; exact c
  unfold f_X10_charge
  rw [e_isMetal (by omega), bnd2_s, ify (by omega), e_inL 1 20000 (by omega) Z1 Z20000 (by omega) (by omega), bnd2_s, ify hy, c_of M 0 0 (by omega), bnd2_s, Nat.zero_add, R.lo (by omega), if_pos d', ew, bnd2_s, R.lo (by omega), R.lo (by omega), iI_add, iI_add, if_neg c']
theorem s_charge (vc : VC M a n H L t) (vb : VB k a n H L t) {m : Nat} (hm : m ≤ 1) {Y : Int} (hy : 1 ≤ Y ∧ Y ≤ 20000) (d : Y ≤ a m) (c : a 6 + a 7 + Y ≤ 20000) : ∃ M1, f_X10_charge M (iI m) (iI Y) = some (iI (a 6 + a 7 + Y), M1) ∧ PU k M1 a (chaA a m Y) n H L t := by
  have R := vc.1
  have hB := vb.1.1
  unfold BM at hB
  have hm' : m = 0 ∨ m = 1 := by omega
  have am : 0 ≤ a m ∧ a m ≤ 1000000 := by rcases hm' with rfl | rfl <;> omega
  have d' : iI Y ≤ iI (a m) := by rw [iI_le (by omega) (by omega)]; omega
  have ew : ∀ M, f_X6_weight M 0 6 = some (M 0 6 + M 0 7, M) := fun M => e_weight M 0 6
  have c' : iI (a 6 + a 7 + Y) ≤ 20000 := by rw [Z20000, iI_le (by omega) (by omega)]; exact c
  refine PU.of (M := M) ?_ (vb.push (by omega) (vb.1.lo (by omega) ?_ ?_))
  · obtain ⟨M1, k1, v1, f1⟩ := c_keep' vc vb
    obtain ⟨M2, k2, w2⟩ := c_put v1.1 (q := 0) (m := m) (by omega) (by omega) (-Y)
    obtain ⟨M3, k3, w3⟩ := c_put w2.1 (q := 6) (m := m) (by omega) (by omega) Y
    refine OPC.go v1 f1.FC (M2 := M3) ?_ ?_
    · unfold f_X10_charge
      rw [e_isMetal (by omega), bnd2_s, ify (by omega), e_inL 1 20000 (by omega) Z1 Z20000 (by omega) (by omega), bnd2_s, ify hy, c_of M 0 0 (by omega), bnd2_s, Nat.zero_add, R.lo (by omega), if_pos d', ew, bnd2_s, R.lo (by omega), R.lo (by omega), iI_add, iI_add, if_pos c', k1, bnd2_s, iI_neg, k2, bnd2_s, k3, bnd2_s, ew, bnd2_s, w3.1.lo (by omega), w3.1.lo (by omega), iI_add]
      refine congrArg (fun z => some (iI z, M3)) ?_
      rcases hm' with rfl | rfl
      · simp [uI]; omega
      · simp [uI]; omega
    · have w := w2.trans w3
      rw [Nat.zero_add, uI_n (show 6 + m ≠ m by omega), show a m + -Y = a m - Y by omega] at w
      exact w
  · rcases hm' with rfl | rfl <;> (unfold BM; simp [chaA, uI]; omega)
  · intro q hq; unfold chaA; rw [uI_n (by omega), uI_n (by omega)]
theorem s_charge_no : f_X10_charge M 2 1 = some (-1, M) := by
  unfold f_X10_charge
  rw [show f_X10_isMetal M 2 = _ from e_isMetal (x := 2) (by omega), bnd2_s, ifn (by omega)]
theorem s_set (vc : VC M a n H L t) (vb : VB k a n H L t) {j : Nat} (hj : j < 7) {Y : Int} (hy : sLo j ≤ Y ∧ Y ≤ sHi j) : ∃ M1, f_X10_set M (iI j) (iI Y) = some (iI (a (45 + j)), M1) ∧ PU k M1 a (uI a (45 + j) Y) n H L t := by
  have R := vc.1
  have h71 : (7 : Int32) - 1 = iI 6 := rfl
  have tj : (iI (j : Int)).toNatClampNeg = j := iI_lo (by omega)
  have vj : vin (iI (j : Int)) 7 := vinI (by omega) (by omega)
  have sf : sFrom (iI (j : Int)).toNatClampNeg = iI (sLo j) := by rw [tj]; exact sFrom_e j hj
  have sT : sTo (iI (j : Int)).toNatClampNeg = iI (sHi j) := by rw [tj]; exact sTo_e j hj
  have bl : B31 (sLo j) ∧ 0 ≤ sLo j := by unfold sLo; split <;> omega
  have bh : B31 (sHi j) := by unfold sHi; split <;> (try split) <;> (try split) <;> (try split) <;> (try split) <;> omega
  refine PU.of (M := M) ?_ (vb.push (by omega) (vb.1.set (by omega) hj hy))
  obtain ⟨M1, k1, v1, f1⟩ := c_keep' vc vb
  refine OPC.go v1 f1.FC (M2 := up2 M1 40 j (iI Y)) ?_ ⟨?_, fun G g1 g2 g3 g4 g5 => up2_gn g2⟩
  · unfold f_X10_set
    rw [e_inL 0 6 (by omega) Z0 h71 (by omega) (by omega), bnd2_s, ify (by omega), if_pos vj, if_pos vj, sf, sT, e_isIn (by omega) bl.1 bh, bnd2_s, ify hy, k1, bnd2_s, if_pos vj, if_pos vj]
    simp only [tj, letB_e, Nat.add_zero, v1.1.se hj]
  · rw [up2_gn (by omega), up2_gr, up2_gn (by omega)]; exact v1.1.u_set _ hj
theorem s_set_no : f_X10_set M 5 51 = some (-1, M) := by
  have h71 : (7 : Int32) - 1 = iI 6 := rfl
  have e5 : (5 : Int32).toNatClampNeg = 5 := by decide
  have q : f_X10_isIn M 51 (sFrom (5 : Int32).toNatClampNeg) (sTo (5 : Int32).toNatClampNeg) = some (dI (sLo 5 ≤ 51 ∧ 51 ≤ sHi 5), M) := by
    rw [e5, sFrom_e 5 (by omega), sTo_e 5 (by omega)]
    exact e_isIn (x := 51) (by omega) (by decide) (by decide)
  unfold f_X10_set
  rw [show f_X10_isIn M 5 0 (7 - 1) = _ from e_inL (x := 5) 0 6 (by omega) Z0 h71 (by omega) (by omega), bnd2_s, ify (by omega), if_pos (by decide), if_pos (by decide), q, bnd2_s, ifn (by decide)]
theorem s_cancel (vc : VC M a n H L t) (vb : VB k a n H L t) {j : Nat} (hj : j < (a 53).toNat) (c : a (857 + 4 * j) = 0) : ∃ M1, f_X10_cancel M (iI j) = some (iI (cn (orP (uI a (857 + 4 * j) 2) 0) (a 53).toNat), M1) ∧ PU k M1 a (uI a (857 + 4 * j) 2) n H L t := by
  have R := vc.1
  have hM := vb.1.1
  unfold BM at hM
  have ho := vb.1.2.2.2.2.1 j hj
  have ho' := ho
  unfold BO at ho'
  have hBd : Bd (k + 1) (uI a (857 + 4 * j) 2) := by
    refine vb.1.order (o := j) (by omega) (by omega) (fun q hq => uI_n (by omega)) ?_ (fun h => absurd h (by rw [uI_s]; omega))
    unfold BO
    rw [uI_n (show 854 + 4 * j ≠ _ by omega), uI_n (show 855 + 4 * j ≠ _ by omega), uI_n (show 856 + 4 * j ≠ _ by omega), uI_s]
    omega
  have a53 : uI a (857 + 4 * j) 2 53 = a 53 := uI_n (by omega)
  refine PU.of (M := M) ?_ (vb.push (by omega) hBd)
  obtain ⟨M1, k1, v1, f1⟩ := c_keep' vc vb
  have w1 : CW M1 (up2 M1 0 (857 + 4 * j) (iI 2)) (uI a (857 + 4 * j) 2) := (CW.refl v1.1).up (v1.1.u_same _ (by omega))
  refine OPC.go v1 f1.FC (M2 := up2 M1 0 (857 + 4 * j) (iI 2)) ?_ w1
  have q := c_ordersIn w1.1 (s := 0) (by omega) hBd.2.2.2.2.1 (by omega)
  unfold f_X10_cancel optE
  rw [orderAt_some R hj, bnd2_s]
  simp only
  rw [R.o3 hj, if_pos (by rw [c]; rfl), k1, bnd2_s, letB_e, show (2 : Int32) = iI 2 from rfl, show f_X9_ordersIn (up2 M1 0 (857 + 4 * j) (iI 2)) 0 0 = _ from q, bnd2_s, a53]
theorem s_cancel_not (vc : VC M a n H L t) (vb : VB k a n H L t) {j : Nat} (hj : j < (a 53).toNat) (c : a (857 + 4 * j) ≠ 0) : f_X10_cancel M (iI j) = some (-2, M) := by
  have ho' := vb.1.2.2.2.2.1 j hj
  unfold BO at ho'
  unfold f_X10_cancel optE
  rw [orderAt_some vc.1 hj, bnd2_s]
  simp only
  rw [vc.1.o3 hj, if_neg (by rw [Z0, iI_inj (by omega) (by omega)]; exact c)]
theorem s_cancel_no (vc : VC M a n H L t) (vb : VB k a n H L t) {X : Int} (hX : B31 X) (hx : ¬ (0 ≤ X ∧ X ≤ a 53 - 1)) : f_X10_cancel M (iI X) = some (-1, M) := by
  have hM := vb.1.1
  unfold BM at hM
  unfold f_X10_cancel
  rw [orderAt_none vc.1 (by omega) hX hx, bnd2_s]; rfl
theorem s_order (vc : VC M a n H L t) (vb : VB k a n H L t) {X Y U : Int} (hx : 0 ≤ X ∧ X ≤ 3) (hy : 1 ≤ Y ∧ Y ≤ 20000) (hu : 0 ≤ U ∧ U ≤ 500) : ((openN a = 8 ∨ a 53 = 100) ∧ f_X10_order M (iI X) (iI Y) (iI U) = some (-3, M)) ∨ (openN a ≠ 8 ∧ a 53 ≠ 100 ∧ ∃ M1, f_X10_order M (iI X) (iI Y) (iI U) = some (iI (a 53), M1) ∧ PU k M1 a (ordA a (a 53).toNat X Y U) n H L t) := by
  have R := vc.1
  have hM := vb.1.1
  unfold BM at hM
  have hO := vb.1.2.2.2.2.1
  have hN := vb.1.2.2.2.2.2.2
  have cOp := c_ordersIn R (s := 0) (by omega) hO (by omega)
  have eOp : cn (orP a 0) (a 53).toNat = openN a := rfl
  rw [eOp] at cOp
  by_cases c8 : openN a = 8
  · refine Or.inl ⟨Or.inl c8, ?_⟩
    unfold f_X10_order
    rw [e_isProfile (by omega), bnd2_s, ify hx, e_inL 1 20000 (by omega) Z1 Z20000 (by omega) (by omega), bnd2_s, ify hy, e_inL 0 500 (by omega) Z0 Z500 (by omega) (by omega), bnd2_s, ify hu, show f_X9_ordersIn M 0 0 = _ from cOp, bnd2_s, if_pos (by rw [c8]; decide)]
  · have d8 : ¬ (8 : Int32) ≤ iI (openN a) := by rw [Z8, iI_le (by omega) (by omega)]; omega
    by_cases c100 : a 53 = 100
    · refine Or.inl ⟨Or.inr c100, ?_⟩
      unfold f_X10_order
      rw [e_isProfile (by omega), bnd2_s, ify hx, e_inL 1 20000 (by omega) Z1 Z20000 (by omega) (by omega), bnd2_s, ify hy, e_inL 0 500 (by omega) Z0 Z500 (by omega) (by omega), bnd2_s, ify hu, show f_X9_ordersIn M 0 0 = _ from cOp, bnd2_s, if_neg d8, R.no, if_neg (by rw [c100]; decide)]
    · obtain ⟨o, ho⟩ : ∃ o : Nat, a 53 = o := ⟨(a 53).toNat, by omega⟩
      have ho1 : o < 100 := by omega
      have hto : (a 53).toNat = o := by omega
      refine Or.inr ⟨c8, c100, ?_⟩
      rw [hto]
      refine PU.of (M := M) ?_ (vb.push (by omega) (Bd_ordA vb.1 (by omega) ho ho1 hx hy hu c8))
      obtain ⟨M1, k1, v1, f1⟩ := c_keep' vc vb
      have w1 := (CW.refl v1.1).up (v1.1.u_same (q := 854 + 4 * o) X (by omega))
      have w2 := w1.up (w1.1.u_same (q := 855 + 4 * o) Y (by omega))
      have w3 := w2.up (w2.1.u_same (q := 856 + 4 * o) U (by omega))
      have w4 := w3.up (w3.1.u_same (q := 857 + 4 * o) 0 (by omega))
      obtain ⟨M5, hM5⟩ : ∃ M5, M5 = up2 (up2 (up2 (up2 M1 0 (854 + 4 * o) (iI X)) 0 (855 + 4 * o) (iI Y)) 0 (856 + 4 * o) (iI U)) 0 (857 + 4 * o) (iI 0) := ⟨_, rfl⟩
      rw [← hM5] at w4
      have n53 : M5 0 53 = iI (a 53) := by
        rw [hM5, up2_in _ (by omega), up2_in _ (by omega), up2_in _ (by omega), up2_in _ (by omega)]; exact v1.1.no
      have a4 : uI (uI (uI (uI a (854 + 4 * o) X) (855 + 4 * o) Y) (856 + 4 * o) U) (857 + 4 * o) 0 53 = a 53 := by
        rw [uI_n (by omega), uI_n (by omega), uI_n (by omega), uI_n (by omega)]
      have w5 := w4.up (w4.1.u_order (by rw [a4]; omega) (by rw [a4]; omega) (fun f hf => by
        rw [a4, hto, hM5]
        have hq : f = 0 ∨ f = 1 ∨ f = 2 ∨ f = 3 := by omega
        rcases hq with rfl | rfl | rfl | rfl
        · rw [Nat.add_zero, up2_in _ (by omega), up2_in _ (by omega), up2_in _ (by omega), up2_eq, uI_n (by omega), uI_n (by omega), uI_n (by omega), uI_s]
        · rw [show 854 + 4 * o + 1 = 855 + 4 * o by omega, up2_in _ (by omega), up2_in _ (by omega), up2_eq, uI_n (by omega), uI_n (by omega), uI_s]
        · rw [show 854 + 4 * o + 2 = 856 + 4 * o by omega, up2_in _ (by omega), up2_eq, uI_n (by omega), uI_s]
        · rw [show 854 + 4 * o + 3 = 857 + 4 * o by omega, up2_eq, uI_s]))
      rw [a4] at w5
      refine OPC.go v1 f1.FC (M2 := up2 M5 0 53 (iI (a 53 + 1))) ?_ w5
      unfold f_X10_order
      rw [e_isProfile (by omega), bnd2_s, ify hx, e_inL 1 20000 (by omega) Z1 Z20000 (by omega) (by omega), bnd2_s, ify hy, e_inL 0 500 (by omega) Z0 Z500 (by omega) (by omega), bnd2_s, ify hu, show f_X9_ordersIn M 0 0 = _ from cOp, bnd2_s, if_neg d8, R.no, if_pos (by rw [Z100, iI_lt (by omega) (by omega)]; omega), k1, bnd2_s]
      unfold f_X9_takeOrder
      have t5 : (iI (a 53)).toNatClampNeg = o := by rw [ho]; exact iI_lo (by omega)
      have v5 : vin (iI (a 53)) 100 := by rw [ho]; exact vinI (by omega) (by omega)
      simp only [v1.1.no, if_pos v5, t5, letB_e, Z0, ← hM5, n53, Z1, iI_add, up2_eq, iI_sub, bnd2_s]
      rw [show a 53 + 1 - 1 = a 53 by omega]
theorem s_order_no : f_X10_order M 0 20001 0 = some (-1, M) := by
  unfold f_X10_order
  rw [show f_X10_isProfile M 0 = _ from e_isProfile (x := 0) (by omega), bnd2_s, ify (by omega), show f_X10_isIn M 20001 1 20000 = _ from e_inL (x := 20001) 1 20000 (by omega) Z1 Z20000 (by omega) (by omega), bnd2_s, ifn (by omega)]
theorem s_send (vc : VC M a n H L t) (vb : VB k a n H L t) {b o : Nat} (hb : b < (a 52).toNat) (ho : o < (a 53).toNat) (g : a (857 + 4 * o) = 0 ∧ fit a b o ∧ a (54 + 8 * b) + a (55 + 8 * b) ≤ a 51) : ∃ M1, f_X10_send M (iI b) (iI o) = some (iI (a (54 + 8 * b) + a (55 + 8 * b)), M1) ∧ PU k M1 a (senA a b o) n H L t := by
  have R := vc.1
  have hM := vb.1.1
  unfold BM at hM
  have hS := vb.1.2.1
  unfold BS at hS
  have Bo := vb.1.2.2.2.2.1 o ho
  have Bo' := Bo
  unfold BO at Bo'
  obtain ⟨b1, b2, b3, b4, b5, b6, b7, b8, b9⟩ := vb.1.2.2.2.1 b hb
  have Bb := vb.1.2.2.2.1 b hb
  obtain ⟨g1, g2, g3⟩ := g
  have hBd1 : Bd (k + 1) (uI (uI a (60 + 8 * b) 2) (61 + 8 * b) o) := by
    refine vb.1.bell (b := b) (by omega) (by omega) (fun q hq => by rw [uI_n (by omega), uI_n (by omega)]) ?_ (fun h => absurd h (by rw [uI_n (by omega), uI_s]; omega))
    unfold BB
    rw [uI_n (show 54 + 8 * b ≠ _ by omega), uI_n (show 54 + 8 * b ≠ _ by omega), uI_n (show 55 + 8 * b ≠ _ by omega), uI_n (show 55 + 8 * b ≠ _ by omega), uI_n (show 56 + 8 * b ≠ _ by omega), uI_n (show 56 + 8 * b ≠ _ by omega), uI_n (show 57 + 8 * b ≠ _ by omega), uI_n (show 57 + 8 * b ≠ _ by omega), uI_n (show 58 + 8 * b ≠ _ by omega), uI_n (show 58 + 8 * b ≠ _ by omega), uI_n (show 59 + 8 * b ≠ _ by omega), uI_n (show 59 + 8 * b ≠ _ by omega), uI_n (show 60 + 8 * b ≠ 61 + 8 * b by omega), uI_s, uI_s]
    have hf := g2.1
    omega
  have hBd2 : Bd (k + 1) (senA a b o) := by
    refine hBd1.order (o := o) (by omega) (by omega) (fun q hq => uI_n (by omega)) ?_ (fun h => absurd h (by unfold senA; rw [uI_s]; omega))
    unfold BO senA
    rw [uI_n (show 854 + 4 * o ≠ 857 + 4 * o by omega), uI_n (show 854 + 4 * o ≠ _ by omega), uI_n (show 854 + 4 * o ≠ _ by omega), uI_n (show 855 + 4 * o ≠ 857 + 4 * o by omega), uI_n (show 855 + 4 * o ≠ _ by omega), uI_n (show 855 + 4 * o ≠ _ by omega), uI_n (show 856 + 4 * o ≠ 857 + 4 * o by omega), uI_n (show 856 + 4 * o ≠ _ by omega), uI_n (show 856 + 4 * o ≠ _ by omega), uI_s]
    omega
  refine PU.of (M := M) ?_ (vb.push (by omega) hBd2)
  obtain ⟨M1, k1, v1, f1⟩ := c_keep' vc vb
  have r1 := v1.1.u_send (b := b) o (by omega)
  have w2 : CW M1 (up2 (up2 M1 0 (60 + 8 * b) (iI 2)) 0 (61 + 8 * b) (iI o)) (uI (uI a (60 + 8 * b) 2) (61 + 8 * b) o) := by
    refine ⟨?_, fun G g1 g2 g3 g4 g5 => by rw [up2_gn g1, up2_gn g1]⟩
    rw [up2_gr, up2_gr, up2_gn (by omega), up2_gn (by omega), up2_gn (by omega), up2_gn (by omega)]
    exact r1
  have w3 := w2.up (w2.1.u_same (q := 857 + 4 * o) 1 (by omega))
  refine OPC.go v1 f1.FC ?_ w3
  unfold f_X10_send optE
  rw [bellAt_some R hb, bnd2_s]
  simp only
  rw [orderAt_some R ho, bnd2_s]
  simp only
  rw [e_weight, bnd2_s, R.o3 ho, if_pos (by rw [g1]; rfl), c_isFitBy R hb ho Bb Bo, bnd2_s, ify g2, if_pos (show vin (6 : Int32) 7 from by decide), R.b0 hb, R.b1 hb, iI_add, show (6 : Int32).toNatClampNeg = 6 from by decide, show M (40 + 0) 6 = iI (a 51) from R.se (j := 6) (by omega), if_pos (by rw [iI_le (by omega) (by omega)]; exact g3), k1, bnd2_s]
  rfl
theorem s_send_not (vc : VC M a n H L t) (vb : VB k a n H L t) {b o : Nat} (hb : b < (a 52).toNat) (ho : o < (a 53).toNat) (g : ¬ (a (857 + 4 * o) = 0 ∧ fit a b o ∧ a (54 + 8 * b) + a (55 + 8 * b) ≤ a 51)) : f_X10_send M (iI b) (iI o) = some (-2, M) := by
  have R := vc.1
  have hS := vb.1.2.1
  unfold BS at hS
  have Bo := vb.1.2.2.2.2.1 o ho
  have Bo' := Bo
  unfold BO at Bo'
  obtain ⟨b1, b2, b3, b4, b5, b6, b7, b8, b9⟩ := vb.1.2.2.2.1 b hb
  have Bb := vb.1.2.2.2.1 b hb
  unfold f_X10_send optE
  rw [bellAt_some R hb, bnd2_s]
  simp only
  rw [orderAt_some R ho, bnd2_s]
  simp only
  rw [e_weight, bnd2_s, R.o3 ho]
  by_cases g1 : a (857 + 4 * o) = 0
  · rw [if_pos (by rw [g1]; rfl), c_isFitBy R hb ho Bb Bo, bnd2_s]
    by_cases g2 : fit a b o
    · rw [ify g2, if_pos (show vin (6 : Int32) 7 from by decide), R.b0 hb, R.b1 hb, iI_add, show (6 : Int32).toNatClampNeg = 6 from by decide, show M (40 + 0) 6 = iI (a 51) from R.se (j := 6) (by omega), if_neg (by rw [iI_le (by omega) (by omega)]; exact fun q => g ⟨g1, g2, q⟩)]
    · rw [ifn g2]
  · rw [if_neg (by rw [Z0, iI_inj (by omega) (by omega)]; exact g1)]
theorem s_send_no (vc : VC M a n H L t) (vb : VB k a n H L t) {X Y : Int} (hX : B31 X) (hY : B31 Y) (hx : ¬ (0 ≤ X ∧ X ≤ a 52 - 1) ∨ ¬ (0 ≤ Y ∧ Y ≤ a 53 - 1)) : f_X10_send M (iI X) (iI Y) = some (-1, M) := by
  have R := vc.1
  have hM := vb.1.1
  unfold BM at hM
  unfold f_X10_send optE
  by_cases h1 : 0 ≤ X ∧ X ≤ a 52 - 1
  · obtain ⟨b, rfl⟩ : ∃ j : Nat, X = j := ⟨X.toNat, by omega⟩
    rw [bellAt_some R (by omega), bnd2_s]
    simp only
    rw [orderAt_none R (by omega) hY (by omega), bnd2_s]
  · rw [bellAt_none R (by omega) hX h1, bnd2_s]
    simp only
    by_cases hy : 0 ≤ Y ∧ Y ≤ a 53 - 1
    · obtain ⟨o, rfl⟩ : ∃ j : Nat, Y = j := ⟨Y.toNat, by omega⟩
      rw [orderAt_some R (by omega), bnd2_s]
    · rw [orderAt_none R (by omega) hY hy, bnd2_s]
theorem s_scrap (hk : k ≤ 1000) (vc : VC M a n H L t) (vb : VB k a n H L t) {j m : Nat} (hm : a 8 = m) (hjm : j < m) (c : a 6 + a 7 + (a (9 + 3 * j) + a (10 + 3 * j)) ≤ 20000) : ∃ M1, f_X10_scrap M (iI j) = some (iI (scB a j m 6 + scB a j m 7), M1) ∧ PU k M1 a (scB a j m) n H L t := by
  have R := vc.1
  have hB := vb.1.1
  unfold BM at hB
  have hS := vb.1.2.1
  have hj : j < (a 8).toNat := by omega
  have hl := vb.1.2.2.1 j (by omega)
  have hl' := hl
  unfold BL at hl'
  have hb := scA_b hl hS
  have cw : f_X6_weight M 0 (9 + 3 * pm (M 50) j) = some (iI (a (9 + 3 * j) + a (10 + 3 * j)), M) := by rw [e_weight, R.l0 hj, R.l1 hj, iI_add]
  have cm : f_X6_weight M 0 6 = some (iI (a 6 + a 7), M) := by rw [e_weight, R.lo (by omega), R.lo (by omega), iI_add]
  have c' : iI (a 6 + a 7 + (a (9 + 3 * j) + a (10 + 3 * j))) ≤ 20000 := by rw [Z20000, iI_le (by omega) (by omega)]; exact c
  refine PU.of (M := M) ?_ (vb.push (by omega) (Bd_scB vb.1 hjm hm c))
  obtain ⟨M1, k1, v1, f1⟩ := c_keep' vc vb
  have e50 : M1 50 = M 50 := f1 50 (by omega) (by omega) (by omega) (by omega)
  obtain ⟨M2, k2, w2⟩ := c_meltDown hk v1.1 hj hl hS
  rw [e50] at k2
  obtain ⟨M3, k3, w3⟩ := c_remove w2.1 (j := j) (n := m) (by rw [uI_n (by omega), uI_n (by omega), scA_n (by omega)]; exact hm) hjm
  have w4 : CW M1 M3 (scB a j m) := by
    refine (w2.trans w3).cong (fun q hq => scB_w hjm (by omega) hm q ?_)
    have e8 : rmv (uI (uI (scA a j) 6 (a 6 + scA a j (9 + 3 * j))) 7 (a 7 + scA a j (10 + 3 * j))) j m 8 = a 8 - 1 := by
      unfold rmv; rw [if_pos rfl, uI_n (by omega), uI_n (by omega), scA_n (by omega)]
    rw [e8] at hq
    omega
  refine OPC.go v1 f1.FC (M2 := M3) ?_ w4
  unfold f_X10_scrap optE
  rw [lotAt_some R hj, bnd2_s]
  simp only
  rw [cm, bnd2_s, cw, bnd2_s, iI_add, if_pos c', k1, bnd2_s, k2, bnd2_s, k3, bnd2_s, e_weight, bnd2_s, w4.1.lo (by omega), w4.1.lo (by omega), iI_add]
theorem s_scrap_hi (hk : k ≤ 1000) (vc : VC M a n H L t) (vb : VB k a n H L t) {j : Nat} (hj : j < (a 8).toNat) (c : ¬ a 6 + a 7 + (a (9 + 3 * j) + a (10 + 3 * j)) ≤ 20000) : f_X10_scrap M (iI j) = some (-3, M) := by
  have R := vc.1
  have hB := vb.1.1
  unfold BM at hB
  have hl' := vb.1.2.2.1 j (by omega)
  unfold BL at hl'
  have cw : f_X6_weight M 0 (9 + 3 * pm (M 50) j) = some (iI (a (9 + 3 * j) + a (10 + 3 * j)), M) := by rw [e_weight, R.l0 hj, R.l1 hj, iI_add]
  have cm : f_X6_weight M 0 6 = some (iI (a 6 + a 7), M) := by rw [e_weight, R.lo (by omega), R.lo (by omega), iI_add]
  have c' : ¬ iI (a 6 + a 7 + (a (9 + 3 * j) + a (10 + 3 * j))) ≤ 20000 := by rw [Z20000, iI_le (by omega) (by omega)]; exact c
  unfold f_X10_scrap optE
  rw [lotAt_some R hj, bnd2_s]
  simp only
  rw [cm, bnd2_s, cw, bnd2_s, iI_add, if_neg c']
theorem s_scrap_no (vc : VC M a n H L t) (vb : VB k a n H L t) {X : Int} (hX : B31 X) (hx : ¬ (0 ≤ X ∧ X ≤ a 8 - 1)) : f_X10_scrap M (iI X) = some (-1, M) := by
  have hM := vb.1.1
  unfold BM at hM
  unfold f_X10_scrap optE
  rw [lotAt_none vc.1 (by omega) hX hx, bnd2_s]
theorem s_smash (vc : VC M a n H L t) (vb : VB k a n H L t) {b : Nat} (hb : b < (a 52).toNat) (c : a (60 + 8 * b) < 2) : ∃ M1, f_X10_smash M (iI b) = some (iI (a (54 + 8 * b) + a (55 + 8 * b)), M1) ∧ PU k M1 a (smA a b) n H L t := by
  have R := vc.1
  have hM := vb.1.1
  unfold BM at hM
  obtain ⟨b1, b2, b3, b4, b5, b6, b7, b8, b9⟩ := vb.1.2.2.2.1 b hb
  refine PU.of (M := M) ?_ (vb.push (by omega) (Bd_smA vb.1 hb c))
  obtain ⟨M1, k1, v1, f1⟩ := c_keep' vc vb
  obtain ⟨M2, k2, w2⟩ := c_breakUp v1.1 (by omega) hb (by omega) (by omega) (by omega)
  refine OPC.go v1 f1.FC (M2 := M2) ?_ w2
  unfold f_X10_smash optE
  rw [bellAt_some R hb, bnd2_s]
  simp only
  rw [c_remains R hb b6, bnd2_s, ify c, k1, bnd2_s, e_weight, bnd2_s, v1.1.b0 hb, v1.1.b1 hb, iI_add, k2, bnd2_s]
theorem s_smash_not (vc : VC M a n H L t) (vb : VB k a n H L t) {b : Nat} (hb : b < (a 52).toNat) (c : ¬ a (60 + 8 * b) < 2) : f_X10_smash M (iI b) = some (-2, M) := by
  have R := vc.1
  obtain ⟨b1, b2, b3, b4, b5, b6, b7, b8, b9⟩ := vb.1.2.2.2.1 b hb
  unfold f_X10_smash optE
  rw [bellAt_some R hb, bnd2_s]
  simp only
  rw [c_remains R hb b6, bnd2_s, ifn c]
theorem s_smash_no (vc : VC M a n H L t) (vb : VB k a n H L t) {X : Int} (hX : B31 X) (hx : ¬ (0 ≤ X ∧ X ≤ a 52 - 1)) : f_X10_smash M (iI X) = some (-1, M) := by
  have hM := vb.1.1
  unfold BM at hM
  unfold f_X10_smash optE
  rw [bellAt_none vc.1 (by omega) hX hx, bnd2_s]
theorem s_tune (hk : k ≤ 1000) (vc : VC M a n H L t) (vb : VB k a n H L t) {b : Nat} (hb : b < (a 52).toNat) {Y : Int} (hy : 1 ≤ Y ∧ Y ≤ 1000) (c : a (60 + 8 * b) = 0) (d : Y < a (54 + 8 * b) + a (55 + 8 * b)) : ∃ M1, f_X10_tune M (iI b) (iI Y) = some (iI (tlow a b Y), M1) ∧ PU k M1 a (tunA a b Y) n H L t := by
  have R := vc.1
  have hM := vb.1.1
  unfold BM at hM
  have hS := vb.1.2.1
  have Bb' := vb.1.2.2.2.1 b hb
  obtain ⟨b1, b2, b3, b4, b5, b6, b7, b8, b9⟩ := vb.1.2.2.2.1 b hb
  have hl := low_b (pi := a (57 + 8 * b)) (tu := a 50) (n := Y) (w := a (54 + 8 * b) + a (55 + 8 * b)) b3 (by unfold BS at hS; omega) (by omega) (by omega)
  have hst2 : 0 ≤ (if crk (a (59 + 8 * b)) Y (a (56 + 8 * b)) (a (58 + 8 * b)) then (1 : Int) else 0) ∧ (if crk (a (59 + 8 * b)) Y (a (56 + 8 * b)) (a (58 + 8 * b)) then (1 : Int) else 0) ≤ 1 := by split <;> omega
  have hBd := Bd_tu (n := Y) vb.1 hb c hst2 hl (by omega) (by omega) d
  refine PU.of (M := M) ?_ (vb.push (by omega) hBd)
  obtain ⟨M1, k1, v1, g1⟩ := c_keep' vc vb
  obtain ⟨M2, k2, w2⟩ := c_shave hk v1.1 (by omega) hb Bb' hS c hy.1 hy.2 d
  have f8 : ∀ pi st dr, tuA a b pi st dr 8 = a 8 := fun pi st dr => tuA_n (by omega) (by omega) (by omega)
  refine OPC.go v1 g1.FC (M2 := M2) ?_ w2
  unfold f_X10_tune optE
  rw [bellAt_some R hb, bnd2_s]
  simp only
  rw [e_inL 1 1000 (by omega) Z1 Z1000 (by omega) (by omega), bnd2_s, ify hy, R.b6 hb, if_pos (by rw [c]; rfl), e_weight, bnd2_s, R.b0 hb, R.b1 hb, iI_add, if_pos (by rw [iI_lt (by omega) (by omega)]; exact d), k1, bnd2_s, k2, bnd2_s, w2.1.b3 (by rw [dsc_n (by rw [f8]; omega) (by omega) (by omega) (by omega) (by omega), tuA_n (by omega) (by omega) (by omega)]; exact hb), dsc_n (by rw [f8]; omega) (by omega) (by omega) (by omega) (by omega), tuA_3]
theorem s_tune_not (vc : VC M a n H L t) (vb : VB k a n H L t) {b : Nat} (hb : b < (a 52).toNat) {Y : Int} (hy : 1 ≤ Y ∧ Y ≤ 1000) (d : a (60 + 8 * b) ≠ 0 ∨ a (54 + 8 * b) + a (55 + 8 * b) ≤ Y) : f_X10_tune M (iI b) (iI Y) = some (-2, M) := by
  have R := vc.1
  obtain ⟨b1, b2, b3, b4, b5, b6, b7, b8, b9⟩ := vb.1.2.2.2.1 b hb
  unfold f_X10_tune optE
  rw [bellAt_some R hb, bnd2_s]
  simp only
  rw [e_inL 1 1000 (by omega) Z1 Z1000 (by omega) (by omega), bnd2_s, ify hy, R.b6 hb]
  by_cases c : a (60 + 8 * b) = 0
  · rw [if_pos (by rw [c]; rfl), e_weight, bnd2_s, R.b0 hb, R.b1 hb, iI_add, if_neg (by rw [iI_lt (by omega) (by omega)]; omega)]
  · rw [if_neg (by rw [Z0, iI_inj (by omega) (by omega)]; exact c)]
theorem s_tune_no (vc : VC M a n H L t) (vb : VB k a n H L t) {X Y : Int} (hX : B31 X) (hY : B31 Y) (hx : ¬ (0 ≤ X ∧ X ≤ a 52 - 1) ∨ ¬ (1 ≤ Y ∧ Y ≤ 1000)) : f_X10_tune M (iI X) (iI Y) = some (-1, M) := by
  have R := vc.1
  have hM := vb.1.1
  unfold BM at hM
  unfold f_X10_tune optE
  by_cases h1 : 0 ≤ X ∧ X ≤ a 52 - 1
  · obtain ⟨b, rfl⟩ : ∃ j : Nat, X = j := ⟨X.toNat, by omega⟩
    rw [bellAt_some R (by omega), bnd2_s]
    simp only
    rw [e_inL 1 1000 hY Z1 Z1000 (by omega) (by omega), bnd2_s, ifn (by omega)]
  · rw [bellAt_none R (by omega) hX h1, bnd2_s]
theorem s_pour (vc : VC M a n H L t) (vb : VB k a n H L t) {X Y : Int} (hx : 0 ≤ X ∧ X ≤ 3) (hy : 1 ≤ Y ∧ Y ≤ 10000) : (bC a + bT a < Y + sh Y (a 49) ∧ ∃ M1, f_X10_pour M (iI X) (iI Y) = some (-2, M1) ∧ VC M1 a n H L t) ∨ (Y + sh Y (a 49) ≤ bC a + bT a ∧ (hereN a = 12 ∨ a 52 = 100) ∧ ∃ M1, f_X10_pour M (iI X) (iI Y) = some (-3, M1) ∧ VC M1 a n H L t) ∨ (Y + sh Y (a 49) ≤ bC a + bT a ∧ hereN a ≠ 12 ∧ a 52 ≠ 100 ∧ ∃ M1, f_X10_pour M (iI X) (iI Y) = some (iI (a 52), M1) ∧ PU k M1 a (pouA a (a 52).toNat X Y) n H L t) := by
  have R := vc.1
  have hM := vb.1.1
  have hS := vb.1.2.1
  have hbb := bC_b hM hS
  have hM' := hM
  have hS' := hS
  unfold BM at hM'
  unfold BS at hS'
  have hB := vb.1.2.2.2.1
  have h8 : 0 ≤ a 8 ∧ a 8 ≤ 12 := by omega
  obtain ⟨Mb, kb, gb, z0, z1⟩ := c_burntMelt R hM hS
  have wb := CW.o65 R gb
  have vcb := vc.step wb
  have Rb := wb.1
  have hs1 := sh_nn (p := Y) (s := a 49) (by omega) (by omega)
  have hs2 := sh_le (p := Y) (s := a 49) (by omega) (by omega) (by omega)
  have ws : f_X9_weightWithSprue Mb 0 (iI Y) = some (iI (Y + sh Y (a 49)), Mb) := by
    unfold f_X9_weightWithSprue
    rw [c_sprueOf Rb hS (by omega) (by omega), bnd2_s, iI_add]
  have bw : f_X6_weight Mb (65 + 0) 0 = some (iI (bC a + bT a), Mb) := by
    rw [e_weight]; show some (Mb 65 0 + Mb 65 1, Mb) = _; rw [z0, z1, iI_add]
  have lo : ∀ M : MM, f_X10_isProfile M (iI X) = some (dI (0 ≤ X ∧ X ≤ 3), M) := fun M => e_isProfile (by omega)
  by_cases c : Y + sh Y (a 49) ≤ bC a + bT a
  · have c' : iI (Y + sh Y (a 49)) ≤ iI (bC a + bT a) := by rw [iI_le (by omega) (by omega)]; exact c
    have hN12 := vb.1.2.2.2.2.2.1
    by_cases d : hereN a = 12
    · refine Or.inr (Or.inl ⟨c, Or.inl d, Mb, ?_, vcb⟩)
      unfold f_X10_pour
      rw [lo, bnd2_s, ify hx, e_inL 1 10000 (by omega) Z1 Z10000 (by omega) (by omega), bnd2_s, ify hy, kb, bnd2_s, bw, bnd2_s, ws, bnd2_s, if_pos c', c_remaining Rb (by omega) hB, bnd2_s, if_pos (by rw [Z12, iI_le (by omega) (by omega)]; omega)]
    · by_cases e : a 52 = 100
      · refine Or.inr (Or.inl ⟨c, Or.inr e, Mb, ?_, vcb⟩)
        unfold f_X10_pour
        rw [lo, bnd2_s, ify hx, e_inL 1 10000 (by omega) Z1 Z10000 (by omega) (by omega), bnd2_s, ify hy, kb, bnd2_s, bw, bnd2_s, ws, bnd2_s, if_pos c', c_remaining Rb (by omega) hB, bnd2_s, if_neg (by rw [Z12, iI_le (by omega) (by omega)]; omega), Rb.nb, if_neg (by rw [Z100, iI_lt (by omega) (by omega)]; omega)]
      · obtain ⟨b, hb⟩ : ∃ b : Nat, a 52 = b := ⟨(a 52).toNat, by omega⟩
        have hbt : (a 52).toNat = b := by omega
        have hr := rtI_is (w := Y) (by omega) (by omega)
        have hrb := rtI_b (w := Y) (by omega) (by omega)
        have hp := po_b hM hS hy.1 c
        have al1 := alo_nn (c := cin Y (bC a) (bT a)) (t := Y - cin Y (bC a) (bT a)) (by omega) (by omega)
        have al2 := alo_le (c := cin Y (bC a) (bT a)) (t := Y - cin Y (bC a) (bT a)) (by omega) (by omega)
        have hst2 : 0 ≤ (if a 47 ≤ albA a Y ∧ albA a Y ≤ a 48 then (0 : Int) else 1) ∧ (if a 47 ≤ albA a Y ∧ albA a Y ≤ a 48 then (0 : Int) else 1) ≤ 1 := by split <;> omega
        have hpb := pit_b (p := X) (r := rtI Y) (al := albA a Y) (by omega) al1 al2
        refine Or.inr (Or.inr ⟨c, d, e, ?_⟩)
        rw [hbt]
        refine PU.of (M := M) ?_ (vb.push (by omega) (Bd_poF vb.1 hb (by omega) d hx hy.1 hy.2 (by omega) hst2 c))
        obtain ⟨M1, k1, v1, g1⟩ := c_keep' vcb vb
        obtain ⟨M2, k2, w2⟩ := c_castBell v1.1 hM hS hb (by omega) hx hy.1 hy.2 c hr rfl
        refine OPC.go v1 (fun G q1 q2 => (g1.FC G q1 q2).trans (gb G (by omega))) (M2 := M2) ?_ w2
        unfold f_X10_pour
        rw [lo, bnd2_s, ify hx, e_inL 1 10000 (by omega) Z1 Z10000 (by omega) (by omega), bnd2_s, ify hy, kb, bnd2_s, bw, bnd2_s, ws, bnd2_s, if_pos c', c_remaining Rb (by omega) hB, bnd2_s, if_neg (by rw [Z12, iI_le (by omega) (by omega)]; omega), Rb.nb, if_pos (by rw [Z100, iI_lt (by omega) (by omega)]; omega), k1, bnd2_s, k2, bnd2_s, hb]
  · have c' : ¬ iI (Y + sh Y (a 49)) ≤ iI (bC a + bT a) := by rw [iI_le (by omega) (by omega)]; exact c
    refine Or.inl ⟨by omega, Mb, ?_, vcb⟩
    unfold f_X10_pour
    rw [lo, bnd2_s, ify hx, e_inL 1 10000 (by omega) Z1 Z10000 (by omega) (by omega), bnd2_s, ify hy, kb, bnd2_s, bw, bnd2_s, ws, bnd2_s, if_neg c']
theorem s_pour_no : f_X10_pour M 0 0 = some (-1, M) := by
  unfold f_X10_pour
  rw [show f_X10_isProfile M 0 = _ from e_isProfile (x := 0) (by omega), bnd2_s, ify (by omega), show f_X10_isIn M 0 1 10000 = _ from e_inL (x := 0) 1 10000 (by omega) Z1 Z10000 (by omega) (by omega), bnd2_s, ifn (by omega)]
end ACS
