section
/-! The call tune. -/
theorem CW.g60 {M M1 : MM} {a : Nat → Int} (h : CW M M1 a) (i : Nat) (x : Int32) : CW M (up2 M1 60 i x) a := by
  refine ⟨?_, fun G g1 g2 g3 g4 g5 => ?_⟩
  · rw [up2_gn (show 0 ≠ 60 by omega), up2_gn (show 40 ≠ 60 by omega), up2_gn (show 50 ≠ 60 by omega)]; exact h.1
  · rw [up2_gn g4]; exact h.2 G g1 g2 g3 g4 g5
theorem uI_id (a : Nat → Int) (q : Nat) : uI a q (a q) = a := by
  funext i
  unfold uI
  by_cases e : i = q
  · rw [if_pos e, e]
  · rw [if_neg e]
/-- pounds are drawn into the ladle -/
def drw (a : Nat → Int) (p : Nat) (n : Int) : Nat → Int := uI (uI a p (a p - cin n (a p) (a (p + 1)))) (p + 1) (a (p + 1) - (n - cin n (a p) (a (p + 1))))
theorem c_draw60 {M : MM} {a : Nat → Int} (R : RA (M 0) (M 40) (M 50) a) {p : Nat} {n : Int} (h1 : M 0 p = iI (a p)) (h2 : M 0 (p + 1) = iI (a (p + 1))) (hp : p = 6 ∨ ∃ b, b < 100 ∧ p = 54 + 8 * b) (hn : 0 ≤ n) (hc : 0 ≤ a p) (ht : 0 ≤ a (p + 1)) (hB : a p + a (p + 1) ≤ 20000) (hw : n ≤ a p + a (p + 1)) : ∃ M1, f_X6_drawInto M 0 p 60 0 (iI n) = some ((), M1) ∧ CW M M1 (drw a p n) ∧ M1 60 0 = iI (cin n (a p) (a (p + 1))) ∧ M1 60 1 = iI (n - cin n (a p) (a (p + 1))) ∧ ∀ q, q ≠ p → q ≠ p + 1 → M1 0 q = M 0 q := by
  have m0 : n * a p ≤ 20000 * a p := Int.mul_le_mul_of_nonneg_right (by omega) hc
  have q1 : p < 8 ∨ (54 ≤ p ∧ p < 854 ∧ (p - 54) % 8 < 6) ∨ 854 ≤ p := by
    rcases hp with rfl | ⟨b, hb, rfl⟩ <;> omega
  have q2 : p + 1 < 8 ∨ (54 ≤ p + 1 ∧ p + 1 < 854 ∧ (p + 1 - 54) % 8 < 6) ∨ 854 ≤ p + 1 := by
    rcases hp with rfl | ⟨b, hb, rfl⟩ <;> omega
  refine ⟨up2 (up2 (up2 (up2 M 60 0 (iI (cin n (a p) (a (p + 1))))) 60 1 (iI (n - cin n (a p) (a (p + 1))))) 0 p (iI (a p - cin n (a p) (a (p + 1))))) 0 (p + 1) (iI (a (p + 1) - (n - cin n (a p) (a (p + 1))))), ?_, ?_, ?_, ?_, fun q h1 h2 => by rw [up2_in _ h2, up2_in _ h1, up2_gn (by omega), up2_gn (by omega)]⟩
  · unfold f_X6_drawInto
    rw [e_copperOfDraw h1 h2 hn hc ht (by omega) hw (by omega), bnd2_s]
    simp only [letB_e, iI_sub, Nat.zero_add]
    rw [up2_in (g := 60) (i := 1) 60 (show 0 ≠ 1 by omega), up2_eq, up2_gn (M := up2 M 60 0 _) (show 0 ≠ 60 by omega), up2_gn (show 0 ≠ 60 by omega), h1, iI_sub, up2_gn (g := 0) (g' := 60) (show 60 ≠ 0 by omega), up2_eq, up2_in (g := 0) (i := p) 0 (show p + 1 ≠ p by omega), up2_gn (M := up2 M 60 0 _) (show 0 ≠ 60 by omega), up2_gn (show 0 ≠ 60 by omega), h2, iI_sub]
  · exact ((((CW.refl R).g60 0 _).g60 1 _).s _ q1).s _ q2
  · rw [up2_gn (by omega), up2_gn (by omega), up2_in _ (by omega), up2_eq]
  · rw [up2_gn (by omega), up2_gn (by omega), up2_eq]
theorem hs_60 {M : MM} {c t : Int} (h0 : M 60 0 = iI c) (h1 : M 60 1 = iI t) : ∀ M' : MM, (∀ q, 45 ≤ q → M' 0 q = M 0 q) → M' 60 = M 60 → M' 60 0 = iI c ∧ M' 60 (0 + 1) = iI t :=
  fun M' _ h => ⟨by rw [h]; exact h0, by rw [h]; exact h1⟩
/-- pounds of one become scrap -/
def dsc (a : Nat → Int) (p : Nat) (n kd : Int) : Nat → Int := addA (drw a p n) kd (cin n (a p) (a (p + 1))) (n - cin n (a p) (a (p + 1)))
theorem scr_dsc {a : Nat → Int} {p : Nat} {n kd : Int} (h : 0 ≤ a 8 ∧ a 8 ≤ 12) (hp : p + 1 < 8 ∨ 45 ≤ p) (hn : 0 ≤ n) : scr a p n kd = dsc a p n kd := by
  by_cases c : n = 0
  · subst c
    have e : cin 0 (a p) (a (p + 1)) = 0 := by unfold cin; rw [if_pos rfl]
    unfold scr dsc addA drw
    rw [if_pos (by omega), e, if_pos (by omega), Int.sub_zero, Int.sub_zero, Int.sub_zero, uI_id, uI_id]
  · rw [scr_add h hp (by omega)]; rfl
def tuA (a : Nat → Int) (b : Nat) (pi st dr : Int) : Nat → Int := uI (uI (uI a (57 + 8 * b) pi) (60 + 8 * b) st) (59 + 8 * b) dr
theorem tuA_n {a : Nat → Int} {b q : Nat} {pi st dr : Int} (h : q ≠ 57 + 8 * b) (h1 : q ≠ 60 + 8 * b) (h2 : q ≠ 59 + 8 * b) : tuA a b pi st dr q = a q := by
  unfold tuA; rw [uI_n h2, uI_n h1, uI_n h]
theorem tuA_3 {a : Nat → Int} {b : Nat} {pi st dr : Int} : tuA a b pi st dr (57 + 8 * b) = pi := by
  unfold tuA; rw [uI_n (by omega), uI_n (by omega), uI_s]
theorem tuA_6 {a : Nat → Int} {b : Nat} {pi st dr : Int} : tuA a b pi st dr (60 + 8 * b) = st := by
  unfold tuA; rw [uI_n (by omega), uI_s]
theorem tuA_5 {a : Nat → Int} {b : Nat} {pi st dr : Int} : tuA a b pi st dr (59 + 8 * b) = dr := by
  unfold tuA; rw [uI_s]
theorem drw_n {a : Nat → Int} {p q : Nat} {n : Int} (h : q ≠ p) (h1 : q ≠ p + 1) : drw a p n q = a q := by
  unfold drw; rw [uI_n h1, uI_n h]
theorem drw_p {a : Nat → Int} {p : Nat} {n : Int} : drw a p n p = a p - cin n (a p) (a (p + 1)) := by
  unfold drw; rw [uI_n (by omega), uI_s]
theorem drw_p1 {a : Nat → Int} {p : Nat} {n : Int} : drw a p n (p + 1) = a (p + 1) - (n - cin n (a p) (a (p + 1))) := by
  unfold drw; rw [uI_s]
theorem dsc_n {a : Nat → Int} {p q : Nat} {n kd : Int} (h8 : 0 ≤ a 8 ∧ a 8 ≤ 12) (hp : p + 1 < 8 ∨ 45 ≤ p) (hq : q < 8 ∨ 45 ≤ q) (h : q ≠ p) (h1 : q ≠ p + 1) : dsc a p n kd q = a q := by
  unfold dsc
  rw [addA_n (by rw [drw_n (by omega) (by omega)]; exact h8) hq, drw_n h h1]
theorem Bd_tu {k : Int} {a : Nat → Int} {b : Nat} {n pi st : Int} (h : Bd k a) (hb : b < (a 52).toNat) (hs : a (60 + 8 * b) = 0) (hst : 0 ≤ st ∧ st ≤ 1) (hpi : 0 ≤ pi ∧ pi ≤ 2000000) (hn : 1 ≤ n) (hn2 : n ≤ 1000) (hw : n < a (54 + 8 * b) + a (55 + 8 * b)) : Bd (k + 1) (dsc (tuA a b pi st (a (59 + 8 * b) + n)) (54 + 8 * b) n 1) := by
  have hM := h.1
  unfold BM at hM
  have hB := h.2.2.2.1 b hb
  have hk := BL_k (h.2.2.1 0 (by omega))
  have hl := h.2.2.1
  obtain ⟨b1, b2, b3, b4, b5, b6, b7, b8, b9⟩ := hB
  obtain ⟨x, hx⟩ : ∃ x, x = tuA a b pi st (a (59 + 8 * b) + n) := ⟨_, rfl⟩
  have x0 : x (54 + 8 * b) = a (54 + 8 * b) := by rw [hx, tuA_n (by omega) (by omega) (by omega)]
  have x1 : x (55 + 8 * b) = a (55 + 8 * b) := by rw [hx, tuA_n (by omega) (by omega) (by omega)]
  have x3 : x (57 + 8 * b) = pi := by rw [hx, tuA_3]
  have x6 : x (60 + 8 * b) = st := by rw [hx, tuA_6]
  have x5 : x (59 + 8 * b) = a (59 + 8 * b) + n := by rw [hx, tuA_5]
  have xn : ∀ q, q ≠ 57 + 8 * b → q ≠ 60 + 8 * b → q ≠ 59 + 8 * b → x q = a q := fun q q1 q2 q3 => by rw [hx, tuA_n q1 q2 q3]
  rw [← hx]
  obtain ⟨y, hy⟩ : ∃ y, y = drw x (54 + 8 * b) n := ⟨_, rfl⟩
  have c1 := cin_nn (n := n) (c := a (54 + 8 * b)) (t := a (55 + 8 * b)) (by omega) (by omega) (by omega)
  have c2 := cin_le (n := n) (c := a (54 + 8 * b)) (t := a (55 + 8 * b)) (by omega) (by omega) (by omega) (by omega)
  have c3 := cin_lec (n := n) (c := a (54 + 8 * b)) (t := a (55 + 8 * b)) (by omega) (by omega) (by omega) (by omega)
  have c4 := cin_let (n := n) (c := a (54 + 8 * b)) (t := a (55 + 8 * b)) (by omega) (by omega) (by omega) (by omega)
  have y0 : y (54 + 8 * b) = a (54 + 8 * b) - cin n (a (54 + 8 * b)) (a (55 + 8 * b)) := by
    rw [hy, drw_p, show 54 + 8 * b + 1 = 55 + 8 * b by omega, x0, x1]
  have y1 : y (55 + 8 * b) = a (55 + 8 * b) - (n - cin n (a (54 + 8 * b)) (a (55 + 8 * b))) := by
    have := drw_p1 (a := x) (p := 54 + 8 * b) (n := n)
    rw [show 54 + 8 * b + 1 = 55 + 8 * b by omega, x0, x1] at this
    rw [hy, this]
  have yn : ∀ q, q ≠ 54 + 8 * b → q ≠ 55 + 8 * b → y q = x q := fun q q1 q2 => by rw [hy, drw_n q1 (by omega)]
  have y8 : y 8 = a 8 := by rw [yn _ (by omega) (by omega), xn _ (by omega) (by omega) (by omega)]
  have hb1 : Bd (k + 1) y := h.bell (by omega) (show b < 100 by omega) (fun q hq => by rw [yn _ (by omega) (by omega), xn _ (by omega) (by omega) (by omega)]) (by
    unfold BB
    rw [y0, y1, yn (56 + 8 * b) (by omega) (by omega), yn (57 + 8 * b) (by omega) (by omega), yn (58 + 8 * b) (by omega) (by omega), yn (59 + 8 * b) (by omega) (by omega), yn (60 + 8 * b) (by omega) (by omega), yn (61 + 8 * b) (by omega) (by omega), x3, x5, x6, xn (56 + 8 * b) (by omega) (by omega) (by omega), xn (58 + 8 * b) (by omega) (by omega) (by omega), xn (61 + 8 * b) (by omega) (by omega) (by omega)]
    omega) (fun _ => by omega)
  unfold dsc
  rw [← hy, x0, show 54 + 8 * b + 1 = 55 + 8 * b by omega, x1]
  refine hb1.lots (by omega) ?_ ?_ (fun q hq => addA_n (by omega) (by omega))
  · have h1 := hb1.1
    have h8 := addA_8 (a := y) (kd := 1) (c := cin n (a (54 + 8 * b)) (a (55 + 8 * b))) (t := n - cin n (a (54 + 8 * b)) (a (55 + 8 * b))) (by omega)
    unfold BM at h1 ⊢
    rw [addA_n (q := 0) (by omega) (by omega), addA_n (q := 1) (by omega) (by omega), addA_n (q := 6) (by omega) (by omega), addA_n (q := 7) (by omega) (by omega), addA_n (q := 52) (by omega) (by omega), addA_n (q := 53) (by omega) (by omega)]
    omega
  · exact BL_add (by omega) (fun i hi => (hl i hi).congr (fun q q1 q2 => by rw [yn _ (by omega) (by omega), xn _ (by omega) (by omega) (by omega)])) hk (by omega) (by omega) (by omega) (by omega)
theorem c_shave {k : Int} (hk : k ≤ 1000) {M : MM} {a : Nat → Int} (R : RA (M 0) (M 40) (M 50) a) (h8 : 0 ≤ a 8 ∧ a 8 ≤ 12) {b : Nat} (hb : b < (a 52).toNat) (B : BB k a b) (S : BS a) (hs : a (60 + 8 * b) = 0) {n : Int} (hn : 1 ≤ n) (hn2 : n ≤ 1000) (hw : n < a (54 + 8 * b) + a (55 + 8 * b)) : ∃ M1, f_X9_shave M 0 b (iI n) = some ((), M1) ∧ CW M M1 (dsc (tuA a b (low (a (57 + 8 * b)) (a 50) n (a (54 + 8 * b) + a (55 + 8 * b))) (if crk (a (59 + 8 * b)) n (a (56 + 8 * b)) (a (58 + 8 * b)) then 1 else 0) (a (59 + 8 * b) + n)) (54 + 8 * b) n 1) := by
  have hcb := R.cb
  have B' := B
  obtain ⟨b1, b2, b3, b4, b5, b6, b7, b8, b9⟩ := B
  have S' := S
  unfold BS at S'
  have hl := low_b (pi := a (57 + 8 * b)) (tu := a 50) (n := n) (w := a (54 + 8 * b) + a (55 + 8 * b)) b3 (by omega) (by omega) (by omega)
  obtain ⟨pi, hpi⟩ : ∃ pi, pi = low (a (57 + 8 * b)) (a 50) n (a (54 + 8 * b) + a (55 + 8 * b)) := ⟨_, rfl⟩
  rw [← hpi] at hl ⊢
  have w1 := (CW.refl R).s (q := 57 + 8 * b) pi (by omega)
  obtain ⟨a1, ha1⟩ : ∃ a1, a1 = uI a (57 + 8 * b) pi := ⟨_, rfl⟩
  rw [← ha1] at w1
  have an : ∀ q, q ≠ 57 + 8 * b → a1 q = a q := fun q h => by rw [ha1, uI_n h]
  have a3 : a1 (57 + 8 * b) = pi := by rw [ha1, uI_s]
  have B1 : BB k a1 b := by
    unfold BB
    rw [an (54 + 8 * b) (by omega), an (55 + 8 * b) (by omega), an (56 + 8 * b) (by omega), a3, an (58 + 8 * b) (by omega), an (59 + 8 * b) (by omega), an (60 + 8 * b) (by omega), an (61 + 8 * b) (by omega)]
    exact ⟨b1, b2, hl, b4, b5, b6, b7, b8, b9⟩
  have a52 : a1 52 = a 52 := an 52 (by omega)
  have kc := c_cracksBy w1.1 (j := b) (n := n) (by rw [a52]; exact hb) hk B1 (by omega) hn2
  rw [an (59 + 8 * b) (by omega), an (56 + 8 * b) (by omega), an (58 + 8 * b) (by omega)] at kc
  have fin : ∀ (M2 : MM) (st : Int), CW M M2 (uI a1 (60 + 8 * b) st) → ∃ M1, (letB (up2 M2 0 (59 + 8 * b) ((M2 0 (59 + 8 * b)) + (iI n))) fun M10 => (bnd2 (f_X6_drawInto M10 0 (54 + 8 * b) (60 + 0) 0 (iI n)) fun r11 M12 => (bnd2 (f_X2_add M12 0 (60 + 0) 0 1) fun r14 M15 => some ((), M15)))) = some ((), M1) ∧ CW M M1 (dsc (tuA a b pi st (a (59 + 8 * b) + n)) (54 + 8 * b) n 1) := by
    intro M2 st w2
    have e52 : uI a1 (60 + 8 * b) st 52 = a 52 := by rw [uI_n (by omega), a52]
    have e5 : M2 0 (59 + 8 * b) = iI (a (59 + 8 * b)) := by rw [w2.1.b5 (by rw [e52]; exact hb), uI_n (by omega), an _ (by omega)]
    have w3 := w2.s (q := 59 + 8 * b) (a (59 + 8 * b) + n) (by omega)
    have et : uI (uI a1 (60 + 8 * b) st) (59 + 8 * b) (a (59 + 8 * b) + n) = tuA a b pi st (a (59 + 8 * b) + n) := by rw [ha1]; rfl
    rw [et] at w3
    obtain ⟨x, hx⟩ : ∃ x, x = tuA a b pi st (a (59 + 8 * b) + n) := ⟨_, rfl⟩
    rw [← hx] at w3 ⊢
    have x0 : x (54 + 8 * b) = a (54 + 8 * b) := by rw [hx, tuA_n (by omega) (by omega) (by omega)]
    have x1 : x (54 + 8 * b + 1) = a (55 + 8 * b) := by rw [hx, tuA_n (by omega) (by omega) (by omega), show 54 + 8 * b + 1 = 55 + 8 * b by omega]
    have x8 : x 8 = a 8 := by rw [hx, tuA_n (by omega) (by omega) (by omega)]
    have x52 : x 52 = a 52 := by rw [hx, tuA_n (by omega) (by omega) (by omega)]
    have i0 := w3.1.b0 (b := b) (by rw [x52]; exact hb)
    have i1 := w3.1.b1 (b := b) (by rw [x52]; exact hb)
    rw [show 55 + 8 * b = 54 + 8 * b + 1 by omega] at i1
    obtain ⟨M4, k4, w4, l0, l1, -⟩ := c_draw60 w3.1 (p := 54 + 8 * b) (n := n) i0 i1 (Or.inr ⟨b, by omega, rfl⟩) (by omega) (by omega) (by omega) (by omega) (by omega)
    have c1 := cin_nn (n := n) (c := x (54 + 8 * b)) (t := x (54 + 8 * b + 1)) (by omega) (by omega) (by omega)
    have c2 := cin_le (n := n) (c := x (54 + 8 * b)) (t := x (54 + 8 * b + 1)) (by omega) (by omega) (by omega) (by omega)
    obtain ⟨M5, k5, w5, -⟩ := c_add w4.1 (by rw [drw_n (by omega) (by omega), x8]; omega) (kd := 1) (hs_60 l0 l1) (by omega) (by omega) (by omega)
    refine ⟨M5, ?_, (w3.trans w4).trans w5⟩
    rw [letB_e, e5, iI_add, Nat.add_zero, k4, bnd2_s, Z1, k5, bnd2_s]
  unfold f_X9_shave
  rw [if_pos (show vin (5 : Int32) 7 from by decide), show (5 : Int32).toNatClampNeg = 5 from by decide, show M (40 + 0) 5 = iI (a 50) from R.se (j := 5) (by omega), c_pitchBehind R hb B' S (by omega) hn2 (by omega), bnd2_s, letB_e, ← hpi, kc, bnd2_s]
  by_cases c : crk (a (59 + 8 * b)) n (a (56 + 8 * b)) (a (58 + 8 * b))
  · have w2 := w1.up (w1.1.u_state (b := b) (x := 1) (by omega) (by omega))
    obtain ⟨M1, k1, w3⟩ := fin _ 1 w2
    refine ⟨M1, ?_, by rw [if_pos c]; exact w3⟩
    rw [ify c, letB_e]
    exact k1
  · have e : uI a1 (60 + 8 * b) 0 = a1 := by
      have h6 : a1 (60 + 8 * b) = 0 := by rw [an _ (by omega)]; exact hs
      rw [← h6]; exact uI_id _ _
    obtain ⟨M1, k1, w3⟩ := fin _ 0 (by rw [e]; exact w1)
    refine ⟨M1, ?_, by rw [if_neg c]; exact w3⟩
    rw [ifn c]
    exact k1
end
