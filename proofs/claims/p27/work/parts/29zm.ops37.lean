section
/-! Frames: both read a text. -/
theorem fCT_stop {f L nx : Nat} {r : Int32} {M : MM} (hr : r ≠ 0) : fCT f L r nx M = some ((), up2 M 10 2 r) := by
  unfold fCT
  rw [letB_e, up2_eq, if_neg hr]
theorem fCT_go {f L nx : Nat} {M : MM} : fCT f L 0 nx M = lp_X1_read_7 f (up2 M 10 2 0) 0 (iI L) (iI nx) := by
  unfold fCT
  rw [letB_e, up2_eq, if_pos rfl]
theorem c_bell_no {k : Int} {M : MM} {a : Nat → Int} (R : RA (M 0) (M 40) (M 50) a) (h0 : 0 ≤ a 52) (hB : ∀ b, b < (a 52).toNat → BB k a b) (hx : M 10 0 = iI ((0 : Nat) : Int)) {b : Nat} (hb : b ≤ 99) (hno : ¬ (b < (a 52).toNat ∧ a (60 + 8 * b) < 2)) : f_X1_readBell M 0 (iI b) = some (2, M) := by
  unfold f_X1_readBell optE
  rw [hx, if_pos (by rfl)]
  by_cases c : b < (a 52).toNat
  · have b6 := (hB b c).2.2.2.2.2.1
    rw [bellAt_some R c, bnd2_s]
    simp only
    rw [c_remains R c b6, bnd2_s, ifn (fun q => hno ⟨c, q⟩)]
  · rw [bellAt_none R h0 (by omega) (by omega), bnd2_s]
theorem c_bell_hung {k : Int} {M : MM} {a : Nat → Int} (R : RA (M 0) (M 40) (M 50) a) (hB : ∀ b, b < (a 52).toNat → BB k a b) (hx : M 10 0 = iI ((0 : Nat) : Int)) {b : Nat} (hb1 : b < (a 52).toNat) (hb2 : a (60 + 8 * b) < 2) (h13 : M 13 b ≠ 0) : f_X1_readBell M 0 (iI b) = some (3, M) := by
  have hcb := R.cb
  have b6 := (hB b hb1).2.2.2.2.2.1
  unfold f_X1_readBell optE
  rw [hx, if_pos (by rfl), bellAt_some R hb1, bnd2_s]
  simp only
  rw [c_remains R hb1 b6, bnd2_s, ify hb2, if_pos (vinI (by omega) (by omega))]
  have e : (iI (b : Int)).toNatClampNeg = b := iI_lo (by omega)
  simp only [e]
  rw [if_neg h13]
theorem c_bell_ex {M : MM} {ex : Nat} (hx : M 10 0 = iI ex) (h3 : ex ≤ 3) (h0 : ex ≠ 0) (x : Int32) : f_X1_readBell M 0 x = some (1, M) := by
  unfold f_X1_readBell
  rw [hx, if_neg (by rw [Z0, iI_inj (by omega) (by omega)]; omega)]
theorem c_sign_bad {M : MM} {ex op : Nat} {x : Int} (hx : M 10 0 = iI ex) (h3 : ex ≤ 3) (h6 : M 10 6 = iI op) (h5 : op ≤ 5) (c0 : x = 40 → ¬ (ex = 0 ∧ op < 5)) (c1 : x = 44 → ex ≠ 1) (c2 : x = 41 → ex ≠ 2) : fSG M x = some (1, M) := by
  unfold fSG
  by_cases e1 : x = 40
  · rw [if_pos e1]
    unfold f_X1_openBeam
    rw [hx]
    by_cases q : ex = 0
    · rw [if_pos (by rw [q]; rfl), h6, if_neg (by rw [Z5, iI_lt (by omega) (by omega)]; have := c0 e1; omega)]
    · rw [if_neg (by rw [Z0, iI_inj (by omega) (by omega)]; omega)]
  · rw [if_neg e1]
    by_cases e2 : x = 44
    · rw [if_pos e2]
      unfold f_X1_passComma
      rw [hx, if_neg (by rw [Z1, iI_inj (by omega) (by omega)]; have := c1 e2; omega)]
    · rw [if_neg e2]
      by_cases e3 : x = 41
      · rw [if_pos e3]
        unfold f_X1_closeBeam
        rw [hx, if_neg (by rw [Z2, iI_inj (by omega) (by omega)]; have := c2 e3; omega)]
      · rw [if_neg e3]
end
