section
/-! The calls smash, tune. -/
theorem BL_k {k : Int} {a : Nat → Int} {i : Nat} (h : BL k a i) : 0 ≤ k := by unfold BL at h; omega
theorem hs_bell {M : MM} {a : Nat → Int} (R : RA (M 0) (M 40) (M 50) a) {b : Nat} (hb : b < (a 52).toNat) : ∀ M' : MM, (∀ q, 45 ≤ q → M' 0 q = M 0 q) → M' 60 = M 60 → M' 0 (54 + 8 * b) = iI (a (54 + 8 * b)) ∧ M' 0 (54 + 8 * b + 1) = iI (a (55 + 8 * b)) :=
  fun M' h _ => ⟨by rw [h _ (by omega)]; exact R.b0 hb, by rw [h _ (by omega)]; exact R.b1 hb⟩
def smA (a : Nat → Int) (b : Nat) : Nat → Int := uI (uI (uI (addA a 2 (a (54 + 8 * b)) (a (55 + 8 * b))) (54 + 8 * b) 0) (55 + 8 * b) 0) (60 + 8 * b) 3
theorem smA_e {a : Nat → Int} {b : Nat} (h : 0 ≤ a 8 ∧ a 8 ≤ 12) : smA a b = addA (uI (uI (uI a (54 + 8 * b) 0) (55 + 8 * b) 0) (60 + 8 * b) 3) 2 (a (54 + 8 * b)) (a (55 + 8 * b)) := by
  have e1 : uI a (54 + 8 * b) 0 8 = a 8 := uI_n (by omega)
  have e2 : uI (uI a (54 + 8 * b) 0) (55 + 8 * b) 0 8 = a 8 := by rw [uI_n (by omega), e1]
  rw [addA_comm (by rw [e2]; exact h) (by omega), addA_comm (by rw [e1]; exact h) (by omega), addA_comm h (by omega)]
  rfl
theorem c_breakUp {M : MM} {a : Nat → Int} (R : RA (M 0) (M 40) (M 50) a) (h0 : 0 ≤ a 8) {b : Nat} (hb : b < (a 52).toNat) (hc : 0 ≤ a (54 + 8 * b)) (ht : 0 ≤ a (55 + 8 * b)) (hw : a (54 + 8 * b) + a (55 + 8 * b) ≤ 10000) : ∃ M1, f_X9_breakUp M 0 b = some ((), M1) ∧ CW M M1 (smA a b) := by
  have hcb := R.cb
  obtain ⟨M1, k1, w1, q1, -⟩ := c_add R h0 (kd := 2) (hs_bell R hb) hc ht (by omega)
  refine ⟨up2 (up2 (up2 M1 0 (54 + 8 * b) (iI 0)) 0 (55 + 8 * b) (iI 0)) 0 (60 + 8 * b) (iI 3), ?_, ?_⟩
  · unfold f_X9_breakUp
    rw [show (2 : Int32) = iI 2 from rfl, k1, bnd2_s, show f_X6_empty M1 0 (54 + 8 * b) = some ((), up2 (up2 M1 0 (54 + 8 * b) (iI 0)) 0 (54 + 8 * b + 1) (iI 0)) from rfl, bnd2_s, letB_e, show 54 + 8 * b + 1 = 55 + 8 * b by omega]; rfl
  · have w3 := (w1.s (q := 54 + 8 * b) 0 (by omega)).s (q := 55 + 8 * b) 0 (by omega)
    exact w3.up (w3.1.u_state (b := b) (x := 3) (by omega) (by omega))
theorem Bd_smA {k : Int} {a : Nat → Int} {b : Nat} (h : Bd k a) (hb : b < (a 52).toNat) (hs : a (60 + 8 * b) < 2) : Bd (k + 1) (smA a b) := by
  have hM := h.1
  unfold BM at hM
  have hB := h.2.2.2.1 b hb
  have hk := BL_k (h.2.2.1 0 (by omega))
  have hl := h.2.2.1
  obtain ⟨b1, b2, b3, b4, b5, b6, b7, b8, b9⟩ := hB
  obtain ⟨a1, ha1⟩ : ∃ a1, a1 = uI (uI (uI a (54 + 8 * b) 0) (55 + 8 * b) 0) (60 + 8 * b) 3 := ⟨_, rfl⟩
  have en : ∀ q, q ≠ 54 + 8 * b → q ≠ 55 + 8 * b → q ≠ 60 + 8 * b → a1 q = a q := fun q q1 q2 q3 => by rw [ha1, uI_n q3, uI_n q2, uI_n q1]
  have e0 : a1 (54 + 8 * b) = 0 := by rw [ha1, uI_n (by omega), uI_n (by omega), uI_s]
  have e1 : a1 (55 + 8 * b) = 0 := by rw [ha1, uI_n (by omega), uI_s]
  have e6 : a1 (60 + 8 * b) = 3 := by rw [ha1, uI_s]
  have e8 : a1 8 = a 8 := en 8 (by omega) (by omega) (by omega)
  have hb1 : Bd (k + 1) a1 := h.bell (by omega) (show b < 100 by omega) (fun q hq => en q (by omega) (by omega) (by omega)) (by
    unfold BB
    rw [e0, e1, e6, en (56 + 8 * b) (by omega) (by omega) (by omega), en (57 + 8 * b) (by omega) (by omega) (by omega), en (58 + 8 * b) (by omega) (by omega) (by omega), en (59 + 8 * b) (by omega) (by omega) (by omega), en (61 + 8 * b) (by omega) (by omega) (by omega)]
    omega) (fun _ => hs)
  rw [smA_e (by omega), ← ha1]
  refine hb1.lots (by omega) ?_ ?_ (fun q hq => addA_n (by omega) (by omega))
  · have h1 := hb1.1
    have h8 := addA_8 (a := a1) (kd := 2) (c := a (54 + 8 * b)) (t := a (55 + 8 * b)) (by omega)
    unfold BM at h1 ⊢
    rw [addA_n (q := 0) (by omega) (by omega), addA_n (q := 1) (by omega) (by omega), addA_n (q := 6) (by omega) (by omega), addA_n (q := 7) (by omega) (by omega), addA_n (q := 52) (by omega) (by omega), addA_n (q := 53) (by omega) (by omega)]
    omega
  · exact BL_add (by omega) (fun i hi => (hl i hi).congr (fun q q1 q2 => en q (by omega) (by omega) (by omega))) hk (by omega) (by omega) (by omega) (by omega)
theorem o_smash {k : Int} (x : Int32) : CALL k (fun M => f_X10_smash M x) (fun M => f_X11_smash M x) := by
  apply both
  intro M a n H L t vc vb
  obtain ⟨X, hX, rfl⟩ := ofI x
  have R := vc.1
  have hM := vb.1.1
  unfold BM at hM
  by_cases hx : 0 ≤ X ∧ X ≤ a 52 - 1
  · obtain ⟨b, rfl⟩ : ∃ j : Nat, X = j := ⟨X.toNat, by omega⟩
    have hb : b < (a 52).toNat := by omega
    have Bb := vb.1.2.2.2.1 b hb
    obtain ⟨b1, b2, b3, b4, b5, b6, b7, b8, b9⟩ := Bb
    by_cases c : a (60 + 8 * b) < 2
    · refine ⟨iI (a (54 + 8 * b) + a (55 + 8 * b)), smA a b, pN n, pH n H a, L, t, vb.push (by omega) (Bd_smA vb.1 hb c), ?_, fun M1 vr => ?_⟩
      · obtain ⟨M1, k1, v1, f1⟩ := c_keep' vc vb
        obtain ⟨M2, k2, w2⟩ := c_breakUp v1.1 (by omega) hb (by omega) (by omega) (by omega)
        refine OPC.go v1 f1.FC (M2 := M2) ?_ w2
        unfold f_X10_smash optE
        rw [bellAt_some R hb, bnd2_s]
        simp only
        rw [c_remains R hb b6, bnd2_s, ify c, k1, bnd2_s, e_weight, bnd2_s, v1.1.b0 hb, v1.1.b1 hb, iI_add, k2, bnd2_s]
      · obtain ⟨M2, k2, v2', f2⟩ := r_keep' vb.2.1 vr
        refine OPR.go2 (f := fun M => f_X11_smash M (iI b)) vr v2' f2 ?_
        show f_X11_smash _ _ = _
        have e6 : iI ((54 + 8 * b : Nat) : Int) + 6 = iI ((60 + 8 * b : Nat) : Int) := by rw [Z6, iI_add]; congr 1; omega
        have v6 : vin (iI ((60 + 8 * b : Nat) : Int)) 1254 := vinI (by omega) (by omega)
        have t6 : (iI ((60 + 8 * b : Nat) : Int)).toNatClampNeg = 60 + 8 * b := iI_lo (by omega)
        have hcin : cin (a (54 + 8 * b) + a (55 + 8 * b)) (a (54 + 8 * b)) (a (55 + 8 * b)) = a (54 + 8 * b) := cin_all (by omega) (by omega) (by omega)
        have hsc : scr a (54 + 8 * b) (a (54 + 8 * b) + a (55 + 8 * b)) 2 = uI (uI (addA a 2 (a (54 + 8 * b)) (a (55 + 8 * b))) (54 + 8 * b) 0) (55 + 8 * b) 0 := by
          rw [scr_add (by omega) (by omega) (by omega), show 54 + 8 * b + 1 = 55 + 8 * b by omega, hcin, addA_comm (by rw [uI_n (by omega)]; omega) (by omega), addA_comm (by omega) (by omega), show a (54 + 8 * b) + a (55 + 8 * b) - a (54 + 8 * b) = a (55 + 8 * b) by omega, Int.sub_self, Int.sub_self]
        have hr := r_scraps (M := M2) (a := a) (p := 54 + 8 * b) (n := a (54 + 8 * b) + a (55 + 8 * b)) (kd := 2) (by omega) (by omega) (by omega) (by omega) (by omega) (by omega) (show 0 ≤ a (54 + 8 * b + 1) by rw [show 54 + 8 * b + 1 = 55 + 8 * b by omega]; omega) (by rw [show 54 + 8 * b + 1 = 55 + 8 * b by omega]; omega) (by rw [show 54 + 8 * b + 1 = 55 + 8 * b by omega]; omega)
        rw [hsc] at hr
        unfold f_X11_smash
        rw [r_isBell hX (by omega), bnd2_s, ify hx, r_isHere (by omega) b6, bnd2_s, ify c, k2, bnd2_s, r_atBell, bnd2_s, r_weightB (by omega), bnd2_s, r_atBell, bnd2_s, show (2 : Int32) = iI 2 from rfl, hr, bnd2_s, r_atBell, bnd2_s, e6, if_pos v6, t6, Z3, up2_RF, letB_e]
        rfl
    · refine ⟨-2, a, n, H, L, t, vb.succ, OPC.same vc ?_, fun M1 vr => OPR.go (f := fun M => f_X11_smash M (iI b)) vr ?_⟩
      · unfold f_X10_smash optE
        rw [bellAt_some R hb, bnd2_s]
        simp only
        rw [c_remains R hb b6, bnd2_s, ifn c]
      · show f_X11_smash _ _ = _
        unfold f_X11_smash
        rw [r_isBell hX (by omega), bnd2_s, ify hx, r_isHere (by omega) b6, bnd2_s, ifn c]
  · refine ⟨-1, a, n, H, L, t, vb.succ, OPC.same vc ?_, fun M1 vr => OPR.go (f := fun M => f_X11_smash M (iI X)) vr ?_⟩
    · unfold f_X10_smash optE
      rw [bellAt_none R (by omega) hX hx, bnd2_s]
    · show f_X11_smash _ _ = _
      unfold f_X11_smash
      rw [r_isBell hX (by omega), bnd2_s, ifn hx]
end
