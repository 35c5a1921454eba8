section
/-! The calls smash, tune. -/
theorem BL_k {k : Int} {a : Nat → Int} {i : Nat} (h : BL k a i) : 0 ≤ k := by unfold BL at h; omega
theorem hs_bell {M : MM} {a : Nat → Int} (R : RA (M 0) (M 40) (M 50) a) {b : Nat} (hb : b < (a 52).toNat) : ∀ M' : MM, (∀ q, 45 ≤ q → M' 0 q = M 0 q) → M' 60 = M 60 → M' 0 (54 + 8 * b) = iI (a (54 + 8 * b)) ∧ M' 0 (54 + 8 * b + 1) = iI (a (55 + 8 * b)) :=
  fun M' h _ => ⟨by rw [h _ (by omega)]; exact R.b0 hb, by rw [h _ (by omega)]; exact R.b1 hb⟩
def smA (a : Nat → Int) (b : Nat) : Nat → Int := uI (uI (uI (addA a 2 (a (54 + 8 * b)) (a (55 + 8 * b))) (54 + 8 * b) 0) (55 + 8 * b) 0) (60 + 8 * b) 3
theorem smA_e {a : Nat → Int} {b : Nat} (h : 0 ≤ a 8 ∧ a 8 ≤ 12) : smA a b = addA (uI (uI (uI a (54 + 8 * b) 0) (55 + 8 * b) 0) (60 + 8 * b) 3) 2 (a (54 + 8 * b)) (a (55 + 8 * b)) := by
  have e1 : uI a (54 + 8 * b) 0 8 = a 8 := uI_n (by omega)
  have e2 : uI (uI a (54 + 8 * b) 0) (55 + 8 * b) 0 8 = a 8 := by rw [uI_n (by omega), e1]
  rw [addA_comm (by rw [e2]; exact h) (by omega), addA_comm (by rw [e1]; exact h) (by omega), addA_comm h (by omega)]
  rfl
theorem c_breakUp {M : MM} {a : Nat → Int} (R : RA (M 0) (M 40) (M 50) a) (h0 : 0 ≤ a 8) {b : Nat} (hb : b < (a 52).toNat) (hc : 0 ≤ a (54 + 8 * b)) (ht : 0 ≤ a (55 + 8 * b)) (hw : a (54 + 8 * b) + a (55 + 8 * b) ≤ 10000) : ∃ M1, f_X9_breakUp M 0 b = some ((), M1) ∧ CW M M1 (smA a b) := by
  have hcb := R.cb
  obtain ⟨M1, k1, w1, q1, -⟩ := c_add R h0 (kd := 2) (hs_bell R hb) hc ht (by omega)
  refine ⟨up2 (up2 (up2 M1 0 (54 + 8 * b) (iI 0)) 0 (55 + 8 * b) (iI 0)) 0 (60 + 8 * b) (iI 3), ?_, ?_⟩
  · unfold f_X9_breakUp
    rw [show (2 : Int32) = iI 2 from rfl, k1, bnd2_s, show f_X6_empty M1 0 (54 + 8 * b) = some ((), up2 (up2 M1 0 (54 + 8 * b) (iI 0)) 0 (54 + 8 * b + 1) (iI 0)) from rfl, bnd2_s, letB_e, show 54 + 8 * b + 1 = 55 + 8 * b by omega]; rfl
  · have w3 := (w1.s (q := 54 + 8 * b) 0 (by omega)).s (q := 55 + 8 * b) 0 (by omega)
    exact w3.up (w3.1.u_state (b := b) (x := 3) (by omega) (by omega))
theorem Bd_smA {k : Int} {a : Nat → Int} {b : Nat} (h : Bd k a) (hb : b < (a 52).toNat) (hs : a (60 + 8 * b) < 2) : Bd (k + 1) (smA a b) := by
  have hM := h.1
  unfold BM at hM
  have hB := h.2.2.2.1 b hb
  have hk := BL_k (h.2.2.1 0 (by omega))
  have hl := h.2.2.1
  obtain ⟨b1, b2, b3, b4, b5, b6, b7, b8, b9⟩ := hB
  obtain ⟨a1, ha1⟩ : ∃ a1, a1 = uI (uI (uI a (54 + 8 * b) 0) (55 + 8 * b) 0) (60 + 8 * b) 3 := ⟨_, rfl⟩
  have en : ∀ q, q ≠ 54 + 8 * b → q ≠ 55 + 8 * b → q ≠ 60 + 8 * b → a1 q = a q := fun q q1 q2 q3 => by rw [ha1, uI_n q3, uI_n q2, uI_n q1]
  have e0 : a1 (54 + 8 * b) = 0 := by rw [ha1, uI_n (by omega), uI_n (by omega), uI_s]
  have e1 : a1 (55 + 8 * b) = 0 := by rw [ha1, uI_n (by omega), uI_s]
  have e6 : a1 (60 + 8 * b) = 3 := by rw [ha1, uI_s]
  have e8 : a1 8 = a 8 := en 8 (by omega) (by omega) (by omega)
  have hb1 : Bd (k + 1) a1 := h.bell (by omega) (show b < 100 by omega) (fun q hq => en q (by omega) (by omega) (by omega)) (by
    unfold BB
    rw [e0, e1, e6, en (56 + 8 * b) (by omega) (by omega) (by omega), en (57 + 8 * b) (by omega) (by omega) (by omega), en (58 + 8 * b) (by omega) (by omega) (by omega), en (59 + 8 * b) (by omega) (by omega) (by omega), en (61 + 8 * b) (by omega) (by omega) (by omega)]
    omega) (fun _ => hs)
  rw [smA_e (by omega), ← ha1]
  refine hb1.lots (by omega) ?_ ?_ (fun q hq => addA_n (by omega) (by omega))
  · have h1 := hb1.1
    have h8 := addA_8 (a := a1) (kd := 2) (c := a (54 + 8 * b)) (t := a (55 + 8 * b)) (by omega)
    unfold BM at h1 ⊢
    rw [addA_n (q := 0) (by omega) (by omega), addA_n (q := 1) (by omega) (by omega), addA_n (q := 6) (by omega) (by omega), addA_n (q := 7) (by omega) (by omega), addA_n (q := 52) (by omega) (by omega), addA_n (q := 53) (by omega) (by omega)]
    omega
  · exact BL_add (by omega) (fun i hi => (hl i hi).congr (fun q q1 q2 => en q (by omega) (by omega) (by omega))) hk (by omega) (by omega) (by omega) (by omega)
end
