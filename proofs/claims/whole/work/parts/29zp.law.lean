section
/-! The law, over all calls. -/
def ST0 (k : Int) (M : MM) : Prop := ∃ (a : Nat → Int) (n : Nat) (H : Nat → Nat → Int) (L : Nat) (t : Nat → Int), VC M a n H L t ∧ VR M a n H L t ∧ VB k a n H L t
theorem st_call {k : Int} {fC fR : MM → Option (Int32 × MM)} (h : CALL k fC fR) {M : MM} (s : ST0 k M) : ∃ r M1 M2, fC M = some (r, M1) ∧ fR M1 = some (r, M2) ∧ ST0 (k + 1) M2 := by
  obtain ⟨a, n, H, L, t, h1, h2, h3⟩ := s
  obtain ⟨r, M1, M2, a', n', H', L', t', e1, e2, e3, e4, e5⟩ := h M a n H L t h1 h2 h3
  exact ⟨r, M1, M2, e1, e2, a', n', H', L', t', e3, e4, e5⟩
theorem st_succ {k : Int} {M : MM} (s : ST0 k M) : ST0 (k + 1) M := by
  obtain ⟨a, n, H, L, t, h1, h2, h3⟩ := s
  exact ⟨a, n, H, L, t, h1, h2, h3.succ⟩
theorem law_loop (xs : Nat → Int32) (L : Nat) (hL : L ≤ 2048) : ∀ (j fu i : Nat) (M : MM), 4 * i + j = 4 * 600 → j < fu → 4 * i ≤ 2048 → ST0 (i : Int) M → lp_law fu M xs L (iI ((4 * i : Nat) : Int)) = some () := by
  have eL : Int32.ofNat L - 4 = iI ((L : Int) - 4) := by
    rw [show Int32.ofNat L = iI (L : Int) from nI_i L, Z4, iI_sub]
  intro j
  induction j using Nat.strongRecOn with
  | ind j ih =>
    intro fu i M hz hf hi s
    obtain ⟨f, rfl⟩ : ∃ f, fu = f + 1 := ⟨fu - 1, by omega⟩
    have hk : (i : Int) ≤ 1000 := by omega
    unfold lp_law
    rw [eL]
    by_cases c : (L : Int) - 4 < ((4 * i : Nat) : Int)
    · rw [if_pos (by rw [iI_lt (by omega) (by omega)]; exact c)]
    · rw [if_neg (by rw [iI_lt (by omega) (by omega)]; exact c)]
      obtain ⟨z, hzz⟩ : ∃ z, z = iI ((4 * i : Nat) : Int) := ⟨_, rfl⟩
      have v0 : vin z L := by rw [hzz]; exact vinI (by omega) (by omega)
      have v1 : vin (z + 1) L := by rw [hzz, Z1, iI_add]; exact (iI_vin (by omega) (by omega)).mpr (by omega)
      have v2 : vin (z + 2) L := by rw [hzz, Z2, iI_add]; exact (iI_vin (by omega) (by omega)).mpr (by omega)
      have v3 : vin (z + 3) L := by rw [hzz, Z3, iI_add]; exact (iI_vin (by omega) (by omega)).mpr (by omega)
      have ez : z + 4 = iI ((4 * (i + 1) : Nat) : Int) := by rw [hzz, Z4, iI_add]; congr 1
      have nxt : ∀ M2, ST0 ((i : Int) + 1) M2 → lp_law f M2 xs L (z + 4) = some () := by
        intro M2 s2
        rw [ez]
        by_cases q : 4 * (i + 1) ≤ 2048
        · exact ih (j - 4) (by omega) f (i + 1) M2 (by omega) (by omega) q s2
        · omega
      rw [← hzz, if_pos v0]
      by_cases h0 : (xs z.toNatClampNeg &&& 31 : Int32) = 0
      · obtain ⟨r, M1, M2, e1, e2, s2⟩ := st_call (o_buy (xs (z + 1).toNatClampNeg) (xs (z + 2).toNatClampNeg)) s
        have e1' : f_X10_buy M (xs (z + 1).toNatClampNeg) (xs (z + 2).toNatClampNeg) = some (r, M1) := e1
        have e2' : f_X11_buy M1 (xs (z + 1).toNatClampNeg) (xs (z + 2).toNatClampNeg) = some (r, M2) := e2
        rw [if_pos h0, if_pos v1, if_pos v2, e1', bnd2_s, if_pos v1, if_pos v2, e2', bnd2_s, if_pos rfl]
        exact nxt M2 s2
      rw [if_neg h0]
      by_cases h1 : (xs z.toNatClampNeg &&& 31 : Int32) = 1
      · obtain ⟨r, M1, M2, e1, e2, s2⟩ := st_call (o_charge (xs (z + 1).toNatClampNeg) (xs (z + 2).toNatClampNeg)) s
        have e1' : f_X10_charge M (xs (z + 1).toNatClampNeg) (xs (z + 2).toNatClampNeg) = some (r, M1) := e1
        have e2' : f_X11_charge M1 (xs (z + 1).toNatClampNeg) (xs (z + 2).toNatClampNeg) = some (r, M2) := e2
        rw [if_pos h1, if_pos v1, if_pos v2, e1', bnd2_s, if_pos v1, if_pos v2, e2', bnd2_s, if_pos rfl]
        exact nxt M2 s2
      rw [if_neg h1]
      by_cases h2 : (xs z.toNatClampNeg &&& 31 : Int32) = 2
      · obtain ⟨r, M1, M2, e1, e2, s2⟩ := st_call (o_scrap hk (xs (z + 1).toNatClampNeg)) s
        have e1' : f_X10_scrap M (xs (z + 1).toNatClampNeg) = some (r, M1) := e1
        have e2' : f_X11_scrap M1 (xs (z + 1).toNatClampNeg) = some (r, M2) := e2
        rw [if_pos h2, if_pos v1, e1', bnd2_s, if_pos v1, e2', bnd2_s, if_pos rfl]
        exact nxt M2 s2
      rw [if_neg h2]
      by_cases h3 : (xs z.toNatClampNeg &&& 31 : Int32) = 3
      · obtain ⟨r, M1, M2, e1, e2, s2⟩ := st_call (o_lot hk (xs (z + 1).toNatClampNeg) (xs (z + 2).toNatClampNeg)) s
        have e1' : f_X10_lot M (xs (z + 1).toNatClampNeg) (xs (z + 2).toNatClampNeg) = some (r, M1) := e1
        have e2' : f_X11_lot M1 (xs (z + 1).toNatClampNeg) (xs (z + 2).toNatClampNeg) = some (r, M2) := e2
        rw [if_pos h3, if_pos v1, if_pos v2, e1', bnd2_s, if_pos v1, if_pos v2, e2', bnd2_s, if_pos rfl]
        exact nxt M2 s2
      rw [if_neg h3]
      by_cases h4 : (xs z.toNatClampNeg &&& 31 : Int32) = 4
      · obtain ⟨r, M1, M2, e1, e2, s2⟩ := st_call (o_melt (xs (z + 1).toNatClampNeg)) s
        have e1' : f_X10_melt M (xs (z + 1).toNatClampNeg) = some (r, M1) := e1
        have e2' : f_X11_melt M1 (xs (z + 1).toNatClampNeg) = some (r, M2) := e2
        rw [if_pos h4, if_pos v1, e1', bnd2_s, if_pos v1, e2', bnd2_s, if_pos rfl]
        exact nxt M2 s2
      rw [if_neg h4]
      by_cases h5 : (xs z.toNatClampNeg &&& 31 : Int32) = 5
      · obtain ⟨r, M1, M2, e1, e2, s2⟩ := st_call (o_set (xs (z + 1).toNatClampNeg) (xs (z + 2).toNatClampNeg)) s
        have e1' : f_X10_set M (xs (z + 1).toNatClampNeg) (xs (z + 2).toNatClampNeg) = some (r, M1) := e1
        have e2' : f_X11_set M1 (xs (z + 1).toNatClampNeg) (xs (z + 2).toNatClampNeg) = some (r, M2) := e2
        rw [if_pos h5, if_pos v1, if_pos v2, e1', bnd2_s, if_pos v1, if_pos v2, e2', bnd2_s, if_pos rfl]
        exact nxt M2 s2
      rw [if_neg h5]
      by_cases h6 : (xs z.toNatClampNeg &&& 31 : Int32) = 6
      · obtain ⟨r, M1, M2, e1, e2, s2⟩ := st_call (o_pour (xs (z + 1).toNatClampNeg) (xs (z + 2).toNatClampNeg)) s
        have e1' : f_X10_pour M (xs (z + 1).toNatClampNeg) (xs (z + 2).toNatClampNeg) = some (r, M1) := e1
        have e2' : f_X11_pour M1 (xs (z + 1).toNatClampNeg) (xs (z + 2).toNatClampNeg) = some (r, M2) := e2
        rw [if_pos h6, if_pos v1, if_pos v2, e1', bnd2_s, if_pos v1, if_pos v2, e2', bnd2_s, if_pos rfl]
        exact nxt M2 s2
      rw [if_neg h6]
      by_cases h7 : (xs z.toNatClampNeg &&& 31 : Int32) = 7
      · obtain ⟨r, M1, M2, e1, e2, s2⟩ := st_call (o_tune hk (xs (z + 1).toNatClampNeg) (xs (z + 2).toNatClampNeg)) s
        have e1' : f_X10_tune M (xs (z + 1).toNatClampNeg) (xs (z + 2).toNatClampNeg) = some (r, M1) := e1
        have e2' : f_X11_tune M1 (xs (z + 1).toNatClampNeg) (xs (z + 2).toNatClampNeg) = some (r, M2) := e2
        rw [if_pos h7, if_pos v1, if_pos v2, e1', bnd2_s, if_pos v1, if_pos v2, e2', bnd2_s, if_pos rfl]
        exact nxt M2 s2
      rw [if_neg h7]
      by_cases h8 : (xs z.toNatClampNeg &&& 31 : Int32) = 8
      · obtain ⟨r, M1, M2, e1, e2, s2⟩ := st_call (o_smash (xs (z + 1).toNatClampNeg)) s
        have e1' : f_X10_smash M (xs (z + 1).toNatClampNeg) = some (r, M1) := e1
        have e2' : f_X11_smash M1 (xs (z + 1).toNatClampNeg) = some (r, M2) := e2
        rw [if_pos h8, if_pos v1, e1', bnd2_s, if_pos v1, e2', bnd2_s, if_pos rfl]
        exact nxt M2 s2
      rw [if_neg h8]
      by_cases h9 : (xs z.toNatClampNeg &&& 31 : Int32) = 9
      · obtain ⟨r, M1, M2, e1, e2, s2⟩ := st_call (o_bell (xs (z + 1).toNatClampNeg) (xs (z + 2).toNatClampNeg)) s
        have e1' : f_X10_bell M (xs (z + 1).toNatClampNeg) (xs (z + 2).toNatClampNeg) = some (r, M1) := e1
        have e2' : f_X11_bell M1 (xs (z + 1).toNatClampNeg) (xs (z + 2).toNatClampNeg) = some (r, M2) := e2
        rw [if_pos h9, if_pos v1, if_pos v2, e1', bnd2_s, if_pos v1, if_pos v2, e2', bnd2_s, if_pos rfl]
        exact nxt M2 s2
      rw [if_neg h9]
      by_cases h10 : (xs z.toNatClampNeg &&& 31 : Int32) = 10
      · obtain ⟨r, M1, M2, e1, e2, s2⟩ := st_call (o_order (xs (z + 1).toNatClampNeg) (xs (z + 2).toNatClampNeg) (xs (z + 3).toNatClampNeg)) s
        have e1' : f_X10_order M (xs (z + 1).toNatClampNeg) (xs (z + 2).toNatClampNeg) (xs (z + 3).toNatClampNeg) = some (r, M1) := e1
        have e2' : f_X11_order M1 (xs (z + 1).toNatClampNeg) (xs (z + 2).toNatClampNeg) (xs (z + 3).toNatClampNeg) = some (r, M2) := e2
        rw [if_pos h10, if_pos v1, if_pos v2, if_pos v3, e1', bnd2_s, if_pos v1, if_pos v2, if_pos v3, e2', bnd2_s, if_pos rfl]
        exact nxt M2 s2
      rw [if_neg h10]
      by_cases h11 : (xs z.toNatClampNeg &&& 31 : Int32) = 11
      · obtain ⟨r, M1, M2, e1, e2, s2⟩ := st_call (o_cancel (xs (z + 1).toNatClampNeg)) s
        have e1' : f_X10_cancel M (xs (z + 1).toNatClampNeg) = some (r, M1) := e1
        have e2' : f_X11_cancel M1 (xs (z + 1).toNatClampNeg) = some (r, M2) := e2
        rw [if_pos h11, if_pos v1, e1', bnd2_s, if_pos v1, e2', bnd2_s, if_pos rfl]
        exact nxt M2 s2
      rw [if_neg h11]
      by_cases h12 : (xs z.toNatClampNeg &&& 31 : Int32) = 12
      · obtain ⟨r, M1, M2, e1, e2, s2⟩ := st_call (o_send (xs (z + 1).toNatClampNeg) (xs (z + 2).toNatClampNeg)) s
        have e1' : f_X10_send M (xs (z + 1).toNatClampNeg) (xs (z + 2).toNatClampNeg) = some (r, M1) := e1
        have e2' : f_X11_send M1 (xs (z + 1).toNatClampNeg) (xs (z + 2).toNatClampNeg) = some (r, M2) := e2
        rw [if_pos h12, if_pos v1, if_pos v2, e1', bnd2_s, if_pos v1, if_pos v2, e2', bnd2_s, if_pos rfl]
        exact nxt M2 s2
      rw [if_neg h12]
      by_cases h13 : (xs z.toNatClampNeg &&& 31 : Int32) = 13
      · obtain ⟨r, M1, M2, e1, e2, s2⟩ := st_call (o_orderOf (xs (z + 1).toNatClampNeg) (xs (z + 2).toNatClampNeg)) s
        have e1' : f_X10_orderOf M (xs (z + 1).toNatClampNeg) (xs (z + 2).toNatClampNeg) = some (r, M1) := e1
        have e2' : f_X11_orderOf M1 (xs (z + 1).toNatClampNeg) (xs (z + 2).toNatClampNeg) = some (r, M2) := e2
        rw [if_pos h13, if_pos v1, if_pos v2, e1', bnd2_s, if_pos v1, if_pos v2, e2', bnd2_s, if_pos rfl]
        exact nxt M2 s2
      rw [if_neg h13]
      by_cases h14 : (xs z.toNatClampNeg &&& 31 : Int32) = 14
      · obtain ⟨r, M1, M2, e1, e2, s2⟩ := st_call (o_tuneFor hk (xs (z + 1).toNatClampNeg) (xs (z + 2).toNatClampNeg)) s
        have e1' : f_X10_tuneFor M (xs (z + 1).toNatClampNeg) (xs (z + 2).toNatClampNeg) = some (r, M1) := e1
        have e2' : f_X11_tuneFor M1 (xs (z + 1).toNatClampNeg) (xs (z + 2).toNatClampNeg) = some (r, M2) := e2
        rw [if_pos h14, if_pos v1, if_pos v2, e1', bnd2_s, if_pos v1, if_pos v2, e2', bnd2_s, if_pos rfl]
        exact nxt M2 s2
      rw [if_neg h14]
      by_cases h15 : (xs z.toNatClampNeg &&& 31 : Int32) = 15
      · obtain ⟨r, M1, M2, e1, e2, s2⟩ := st_call (o_pourFor (xs (z + 1).toNatClampNeg)) s
        have e1' : f_X10_pourFor M (xs (z + 1).toNatClampNeg) = some (r, M1) := e1
        have e2' : f_X11_pourFor M1 (xs (z + 1).toNatClampNeg) = some (r, M2) := e2
        rw [if_pos h15, if_pos v1, e1', bnd2_s, if_pos v1, e2', bnd2_s, if_pos rfl]
        exact nxt M2 s2
      rw [if_neg h15]
      by_cases h16 : (xs z.toNatClampNeg &&& 31 : Int32) = 16
      · obtain ⟨r, M1, M2, e1, e2, s2⟩ := st_call (o_wagons (xs (z + 1).toNatClampNeg)) s
        have e1' : f_X10_wagons M (xs (z + 1).toNatClampNeg) = some (r, M1) := e1
        have e2' : f_X11_wagons M1 (xs (z + 1).toNatClampNeg) = some (r, M2) := e2
        rw [if_pos h16, if_pos v1, e1', bnd2_s, if_pos v1, e2', bnd2_s, if_pos rfl]
        exact nxt M2 s2
      rw [if_neg h16]
      by_cases h17 : (xs z.toNatClampNeg &&& 31 : Int32) = 17
      · obtain ⟨r, M1, M2, e1, e2, s2⟩ := st_call (o_account (xs (z + 1).toNatClampNeg) (xs (z + 2).toNatClampNeg)) s
        have e1' : f_X10_account M (xs (z + 1).toNatClampNeg) (xs (z + 2).toNatClampNeg) = some (r, M1) := e1
        have e2' : f_X11_account M1 (xs (z + 1).toNatClampNeg) (xs (z + 2).toNatClampNeg) = some (r, M2) := e2
        rw [if_pos h17, if_pos v1, if_pos v2, e1', bnd2_s, if_pos v1, if_pos v2, e2', bnd2_s, if_pos rfl]
        exact nxt M2 s2
      rw [if_neg h17]
      by_cases h18 : (xs z.toNatClampNeg &&& 31 : Int32) = 18
      · obtain ⟨r, M1, M2, e1, e2, s2⟩ := st_call (o_count (xs (z + 1).toNatClampNeg)) s
        have e1' : f_X10_count M (xs (z + 1).toNatClampNeg) = some (r, M1) := e1
        have e2' : f_X11_count M1 (xs (z + 1).toNatClampNeg) = some (r, M2) := e2
        rw [if_pos h18, if_pos v1, e1', bnd2_s, if_pos v1, e2', bnd2_s, if_pos rfl]
        exact nxt M2 s2
      rw [if_neg h18]
      by_cases h19 : (xs z.toNatClampNeg &&& 31 : Int32) = 19
      · obtain ⟨r, M1, M2, e1, e2, s2⟩ := st_call (o_undo (i : Int)) s
        have e1' : f_X10_undo M = some (r, M1) := e1
        have e2' : f_X11_undo M1 = some (r, M2) := e2
        rw [if_pos h19, e1', bnd2_s, e2', bnd2_s, if_pos rfl]
        exact nxt M2 s2
      rw [if_neg h19]
      by_cases h20 : (xs z.toNatClampNeg &&& 31 : Int32) = 20
      · obtain ⟨r, M1, M2, e1, e2, s2⟩ := st_call (o_type (i : Int) (xs (z + 1).toNatClampNeg)) s
        have e1' : f_X10_type M (xs (z + 1).toNatClampNeg) = some (r, M1) := e1
        have e2' : f_X11_type M1 (xs (z + 1).toNatClampNeg) = some (r, M2) := e2
        rw [if_pos h20, if_pos v1, e1', bnd2_s, if_pos v1, e2', bnd2_s, if_pos rfl]
        exact nxt M2 s2
      rw [if_neg h20]
      by_cases h21 : (xs z.toNatClampNeg &&& 31 : Int32) = 21
      · obtain ⟨r, M1, M2, e1, e2, s2⟩ := st_call (o_clear (i : Int)) s
        have e1' : f_X10_clearText M = some (r, M1) := e1
        have e2' : f_X11_clearText M1 = some (r, M2) := e2
        rw [if_pos h21, e1', bnd2_s, e2', bnd2_s, if_pos rfl]
        exact nxt M2 s2
      rw [if_neg h21]
      by_cases h22 : (xs z.toNatClampNeg &&& 31 : Int32) = 22
      · obtain ⟨r, M1, M2, e1, e2, s2⟩ := st_call (o_fault (xs (z + 1).toNatClampNeg)) s
        have e1' : f_X10_fault M (xs (z + 1).toNatClampNeg) = some (r, M1) := e1
        have e2' : f_X11_fault M1 (xs (z + 1).toNatClampNeg) = some (r, M2) := e2
        rw [if_pos h22, if_pos v1, e1', bnd2_s, if_pos v1, e2', bnd2_s, if_pos rfl]
        exact nxt M2 s2
      rw [if_neg h22]
      by_cases h23 : (xs z.toNatClampNeg &&& 31 : Int32) = 23
      · obtain ⟨r, M1, M2, e1, e2, s2⟩ := st_call (o_frame (xs (z + 1).toNatClampNeg)) s
        have e1' : f_X10_frame M (xs (z + 1).toNatClampNeg) = some (r, M1) := e1
        have e2' : f_X11_frame M1 (xs (z + 1).toNatClampNeg) = some (r, M2) := e2
        rw [if_pos h23, if_pos v1, e1', bnd2_s, if_pos v1, e2', bnd2_s, if_pos rfl]
        exact nxt M2 s2
      rw [if_neg h23]
      exact nxt M (st_succ s)
def a0S : Nat → Int := fun q => if q = 45 then 5 else if q = 46 then 20 else if q = 47 then 180 else if q = 48 then 260 else if q = 49 then 50 else if q = 50 then 6 else if q = 51 then 2000 else 0
theorem a0S_0 {q : Nat} (h : q < 45 ∨ 52 ≤ q) : a0S q = 0 := by
  unfold a0S
  rw [if_neg (by omega), if_neg (by omega), if_neg (by omega), if_neg (by omega), if_neg (by omega), if_neg (by omega), if_neg (by omega)]
theorem M0_pm : ∀ k : Nat, k < 5 → PM (M0 (50 + k)) := by
  intro k hk
  have e : ∀ i, pm (M0 (50 + k)) i = (Int32.ofNat i).toNatClampNeg := fun i => by
    unfold pm M0
    rw [if_neg (by omega), if_pos (by omega)]
  have e2 : ∀ i, i < 12 → pm (M0 (50 + k)) i = i := fun i hi => by rw [e, show Int32.ofNat i = iI (i : Int) from nI_i i, iI_lo (by omega)]
  exact ⟨fun i hi => by rw [e2 i hi]; exact hi, fun i i' hi hi' q => by rw [e2 i hi, e2 i' hi'] at q; exact q⟩
theorem st_first : ST0 0 M0 := by
  have z0 : ∀ q, M0 0 q = 0 := fun q => rfl
  have h35 : ∀ i, i < 4 → pm (M0 35) i = i + 1 := fun i hi => by
    have : pm (M0 35) i = (Int32.ofNat (i + 1)).toNatClampNeg := rfl
    rw [this, show Int32.ofNat (i + 1) = iI ((i + 1 : Nat) : Int) from nI_i _, iI_lo (by omega)]
  refine ⟨a0S, 0, fun _ _ => 0, 0, fun _ => 0, ⟨⟨M0_pm 0 (by omega), ?_, fun q hq => ?_, fun j hj => ?_, ?_, ?_, fun i hi => ?_, fun b hb => ?_, fun o ho => ?_⟩, ⟨rfl, by omega, fun i hi => ?_, fun i i' hi hi' q => ?_, M0_pm, fun i hi => absurd hi (Nat.not_lt_zero i)⟩, rfl, fun i hi => absurd hi (Nat.not_lt_zero i)⟩, ⟨?_, rfl, fun i hi => absurd hi (Nat.not_lt_zero i), rfl, fun i hi => absurd hi (Nat.not_lt_zero i)⟩, ⟨⟨?_, ?_, fun i hi => ?_, fun b hb => ?_, fun o ho => ?_, ?_, ?_⟩, by omega, fun i hi => absurd hi (Nat.not_lt_zero i), by omega, fun i hi => absurd hi (Nat.not_lt_zero i)⟩⟩
  · rw [a0S_0 (by omega), a0S_0 (by omega), a0S_0 (by omega)]; omega
  · rw [z0, a0S_0 (by omega)]; rfl
  · have h7 : j = 0 ∨ j = 1 ∨ j = 2 ∨ j = 3 ∨ j = 4 ∨ j = 5 ∨ j = 6 := by omega
    rcases h7 with rfl | rfl | rfl | rfl | rfl | rfl | rfl <;> rfl
  · rw [z0, a0S_0 (by omega)]; rfl
  · rw [z0, a0S_0 (by omega)]; rfl
  · rw [a0S_0 (by omega)] at hi; exact absurd hi (Nat.not_lt_zero i)
  · rw [a0S_0 (by omega)] at hb; exact absurd hb (Nat.not_lt_zero b)
  · rw [a0S_0 (by omega)] at ho; exact absurd ho (Nat.not_lt_zero o)
  · rw [h35 i hi]; omega
  · rw [h35 i hi, h35 i' hi'] at q; omega
  · funext q
    by_cases c : 45 ≤ q ∧ q < 52
    · have h7 : q = 45 ∨ q = 46 ∨ q = 47 ∨ q = 48 ∨ q = 49 ∨ q = 50 ∨ q = 51 := by omega
      rcases h7 with rfl | rfl | rfl | rfl | rfl | rfl | rfl <;> rfl
    · unfold iF
      rw [a0S_0 (by omega)]
      unfold M0
      rw [if_neg (by omega), if_neg (by omega), if_neg (by omega), if_neg (by omega), if_neg (by omega)]; rfl
  · unfold BM
    rw [a0S_0 (q := 0) (by omega), a0S_0 (q := 1) (by omega), a0S_0 (q := 6) (by omega), a0S_0 (q := 7) (by omega), a0S_0 (q := 8) (by omega), a0S_0 (q := 52) (by omega), a0S_0 (q := 53) (by omega)]
    omega
  · unfold BS
    decide
  · unfold BL
    rw [a0S_0 (q := 9 + 3 * i) (by omega), a0S_0 (q := 10 + 3 * i) (by omega), a0S_0 (q := 11 + 3 * i) (by omega)]
    omega
  · rw [a0S_0 (by omega)] at hb; exact absurd hb (Nat.not_lt_zero b)
  · rw [a0S_0 (by omega)] at ho; exact absurd ho (Nat.not_lt_zero o)
  · unfold hereN
    rw [a0S_0 (by omega)]
    exact Nat.zero_le _
  · unfold openN
    rw [a0S_0 (by omega)]
    exact Nat.zero_le _
theorem law_run (xs : Nat → Int32) (L : Nat) (hL : L ≤ 2048) : lp_law FU M0 xs L 0 = some () :=
  law_loop xs L hL (4 * 600) FU 0 M0 (by omega) (by unfold FU; omega) (by omega) st_first
end
