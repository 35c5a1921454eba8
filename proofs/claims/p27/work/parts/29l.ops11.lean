section
/-! Pounds that come to the scrap; the call smash. -/
def addA (a : Nat → Int) (kd c t : Int) : Nat → Int := if c + t = 0 then a else uI (uI (com a kd) (cAt a) (com a kd (cAt a) + c)) (cAt a + 1) (com a kd (cAt a + 1) + t)
theorem cAt_b {a : Nat → Int} (h : 0 ≤ a 8 ∧ a 8 ≤ 12) : 9 ≤ cAt a ∧ cAt a ≤ 42 := by unfold cAt; split <;> omega
theorem addA_n {a : Nat → Int} {kd c t : Int} {q : Nat} (h : 0 ≤ a 8 ∧ a 8 ≤ 12) (hq : q < 8 ∨ 45 ≤ q) : addA a kd c t q = a q := by
  have := cAt_b h
  unfold addA
  split
  · rfl
  · rw [uI_n (by omega), uI_n (by omega), com_n h hq]
theorem com_comm {a : Nat → Int} {kd : Int} {p : Nat} {x : Int} (h : 0 ≤ a 8 ∧ a 8 ≤ 12) (hp : p < 8 ∨ 45 ≤ p) : com (uI a p x) kd = uI (com a kd) p x := by
  have e8 : uI a p x 8 = a 8 := uI_n (by omega)
  unfold com
  rw [e8]
  split
  · rfl
  · rw [uI_comm (p := p) (q := 8) (by omega), uI_comm (p := p) (q := 9 + 3 * (a 8).toNat) (by omega), uI_comm (p := p) (q := 10 + 3 * (a 8).toNat) (by omega), uI_comm (p := p) (q := 11 + 3 * (a 8).toNat) (by omega)]
theorem cAt_comm {a : Nat → Int} {p : Nat} {x : Int} (hp : p < 8 ∨ 45 ≤ p) : cAt (uI a p x) = cAt a := by
  unfold cAt; rw [uI_n (by omega)]
theorem addA_comm {a : Nat → Int} {kd c t : Int} {p : Nat} {x : Int} (h : 0 ≤ a 8 ∧ a 8 ≤ 12) (hp : p < 8 ∨ 45 ≤ p) : addA (uI a p x) kd c t = uI (addA a kd c t) p x := by
  have := cAt_b h
  unfold addA
  rw [cAt_comm hp, com_comm h hp]
  split
  · rfl
  · rw [uI_n (show cAt a ≠ p by omega), uI_n (show cAt a + 1 ≠ p by omega), uI_comm (p := p) (q := cAt a) (by omega), uI_comm (p := p) (q := cAt a + 1) (by omega)]
theorem scr_add {a : Nat → Int} {p : Nat} {n kd : Int} (h : 0 ≤ a 8 ∧ a 8 ≤ 12) (hp : p + 1 < 8 ∨ 45 ≤ p) (hn : 0 < n) : scr a p n kd = addA (uI (uI a p (a p - cin n (a p) (a (p + 1)))) (p + 1) (a (p + 1) - (n - cin n (a p) (a (p + 1))))) kd (cin n (a p) (a (p + 1))) (n - cin n (a p) (a (p + 1))) := by
  have := cAt_b h
  unfold scr
  rw [if_neg (by omega)]
  rw [addA_comm (by rw [uI_n (by omega)]; exact h) (by omega), addA_comm h (by omega)]
  unfold addA mv
  rw [if_neg (by omega), com_n h (by omega), com_n h (by omega)]
  rw [uI_n (show cAt a ≠ p + 1 by omega), uI_n (show cAt a ≠ p by omega), uI_n (show cAt a + 1 ≠ p + 1 by omega), uI_n (show cAt a + 1 ≠ p by omega)]
  rw [uI_comm (p := p + 1) (q := cAt a) (by omega), uI_comm (p := p + 1) (q := cAt a + 1) (by omega), uI_comm (p := p) (q := cAt a) (by omega), uI_comm (p := p) (q := cAt a + 1) (by omega)]
theorem BL_add {k : Int} {a : Nat → Int} {kd c t : Int} (h : 0 ≤ a 8 ∧ a 8 ≤ 12) (hl : ∀ i, i < 12 → BL k a i) (hk : 0 ≤ k) (hkd : 0 ≤ kd ∧ kd ≤ 2) (hc : 0 ≤ c) (ht : 0 ≤ t) (hw : c + t ≤ 10000) (i : Nat) (hi : i < 12) : BL (k + 1) (addA a kd c t) i := by
  have h1 := hl i hi
  unfold addA
  split
  · unfold BL at h1 ⊢; omega
  · unfold com cAt
    by_cases c12 : a 8 = 12
    · simp only [if_pos c12]
      by_cases e : i = 11
      · subst e
        unfold BL at h1 ⊢
        rw [show 9 + 3 * 11 = 42 from rfl, show 10 + 3 * 11 = 43 from rfl, show 11 + 3 * 11 = 44 from rfl, uI_n (show 42 ≠ 43 by omega), uI_s, uI_s, uI_n (show 44 ≠ 43 by omega), uI_n (show 44 ≠ 42 by omega)]
        simp only [show 9 + 3 * 11 = 42 from rfl, show 10 + 3 * 11 = 43 from rfl, show 11 + 3 * 11 = 44 from rfl] at h1
        omega
      · have h2 : BL (k + 1) a i := by unfold BL at h1 ⊢; omega
        exact h2.congr (fun q q1 q2 => by rw [uI_n (by omega), uI_n (by omega)])
    · simp only [if_neg c12]
      obtain ⟨m, hm⟩ : ∃ m : Nat, a 8 = m := ⟨(a 8).toNat, by omega⟩
      rw [hm, Int.toNat_natCast]
      by_cases e : i = m
      · subst e
        unfold BL
        rw [uI_n (show 9 + 3 * i ≠ 9 + 3 * i + 1 by omega), uI_s, show 10 + 3 * i = 9 + 3 * i + 1 by omega, uI_s, uI_n (show 11 + 3 * i ≠ 9 + 3 * i + 1 by omega), uI_n (show 11 + 3 * i ≠ 9 + 3 * i by omega), uI_s, uI_n (show 9 + 3 * i ≠ 11 + 3 * i by omega), uI_n (show 9 + 3 * i ≠ 9 + 3 * i + 1 by omega), uI_s, uI_n (show 9 + 3 * i + 1 ≠ 11 + 3 * i by omega), uI_s]
        omega
      · have h2 : BL (k + 1) a i := by unfold BL at h1 ⊢; omega
        exact h2.congr (fun q q1 q2 => by rw [uI_n (by omega), uI_n (by omega), uI_n (by omega), uI_n (by omega), uI_n (by omega), uI_n (by omega)])
theorem addA_8 {a : Nat → Int} {kd c t : Int} (h : 0 ≤ a 8 ∧ a 8 ≤ 12) : 0 ≤ addA a kd c t 8 ∧ addA a kd c t 8 ≤ 12 := by
  have := cAt_b h
  unfold addA
  split
  · exact h
  · rw [uI_n (by omega), uI_n (by omega)]
    unfold com
    split
    · exact h
    · rw [uI_n (by omega), uI_n (by omega), uI_n (by omega), uI_s]; omega
theorem RA.u_new {w st r : Nat → Int32} {a : Nat → Int} (h : RA w st r a) {n : Nat} (hn : a 8 = n) (h12 : n < 12) (kd : Int) : RA (upd (upd (upd (upd w (9 + 3 * pm r n) (iI 0)) (9 + 3 * pm r n + 1) (iI 0)) (11 + 3 * pm r n) (iI kd)) 8 (iI ((n : Int) + 1))) st r (com a kd) := by
  have hp := h.1.1 n (by omega)
  have h1 := ((h.u_lot (i := n) (f := 0) 0 (by omega) (by omega)).u_lot (i := n) (f := 1) 0 (by omega) (by omega)).u_lot (i := n) (f := 2) kd (by omega) (by omega)
  rw [show 9 + 3 * pm r n + 2 = 11 + 3 * pm r n by omega] at h1
  have e8 : uI (uI (uI a (9 + 3 * n + 0) 0) (9 + 3 * n + 1) 0) (9 + 3 * n + 2) kd 8 = a 8 := by rw [uI_n (by omega), uI_n (by omega), uI_n (by omega)]
  have h2 := h1.u_size (n := (n : Int) + 1) (by omega) (fun i hi f hf => by
    by_cases e : i = n
    · subst e
      have h3 : f = 0 ∨ f = 1 ∨ f = 2 := by omega
      rcases h3 with rfl | rfl | rfl
      · rw [upd_n (by omega), upd_n (by omega), Nat.add_zero, Nat.add_zero, upd_s, uI_n (by omega), uI_n (by omega), uI_s]
      · rw [upd_n (by omega), upd_s, uI_n (by omega), uI_s]
      · rw [show 9 + 3 * pm r i + 2 = 11 + 3 * pm r i by omega, upd_s, uI_s]
    · exact h1.lt (by rw [e8]; omega) hf)
  have e : com a kd = uI (uI (uI (uI a (9 + 3 * n + 0) 0) (9 + 3 * n + 1) 0) (9 + 3 * n + 2) kd) 8 ((n : Int) + 1) := by
    unfold com
    rw [if_neg (by omega), hn, Int.toNat_natCast, uI_comm (p := 8) (q := 9 + 3 * n) (by omega), uI_comm (p := 8) (q := 10 + 3 * n) (by omega), uI_comm (p := 8) (q := 11 + 3 * n) (by omega), Nat.add_zero, show 9 + 3 * n + 1 = 10 + 3 * n by omega, show 9 + 3 * n + 2 = 11 + 3 * n by omega]
  rw [e]
  exact h2
theorem c_add {M : MM} {a : Nat → Int} (R : RA (M 0) (M 40) (M 50) a) (h0 : 0 ≤ a 8) {G i : Nat} {c t kd : Int} (hs : ∀ M' : MM, (∀ q, 45 ≤ q → M' 0 q = M 0 q) → M' 60 = M 60 → M' G i = iI c ∧ M' G (i + 1) = iI t) (hc : 0 ≤ c) (ht : 0 ≤ t) (hw : c + t ≤ 1000000) : ∃ M1, f_X2_add M 0 G i (iI kd) = some ((), M1) ∧ CW M M1 (addA a kd c t) ∧ (∀ q, 45 ≤ q → M1 0 q = M 0 q) ∧ M1 60 = M 60 := by
  have hb := R.cb
  have s0 := hs M (fun _ _ => rfl) rfl
  have e8 : M 0 8 = iI (a 8) := R.lo (by omega)
  unfold f_X2_add
  rw [e_weight, bnd2_s, s0.1, s0.2, iI_add]
  by_cases cz : c + t = 0
  · refine ⟨M, by rw [if_pos (by rw [cz]; rfl)], ?_, fun _ _ => rfl, rfl⟩
    unfold addA; rw [if_pos cz]; exact CW.refl R
  · rw [if_neg (by rw [Z0, iI_inj (by omega) (by omega)]; exact cz), e8]
    by_cases c12 : a 8 = 12
    · have hp : pm (M 50) 11 < 12 := R.1.1 11 (by omega)
      have t11 : (iI 12 - 1).toNatClampNeg = 11 := by decide
      have v11 : vin (iI 12 - 1) 12 := by decide
      have p42 : M 0 (9 + 3 * pm (M 50) 11) = iI (a 42) := R.l0 (i := 11) (by omega)
      have p43 : M 0 (9 + 3 * pm (M 50) 11 + 1) = iI (a 43) := R.l1 (i := 11) (by omega)
      have s1 := hs (up2 M 0 (9 + 3 * pm (M 50) 11) (iI (a 42 + c))) (fun q hq => by rw [up2_in _ (by omega)]) (by rw [up2_gn (by omega)])
      have eA : addA a kd c t = uI (uI a (9 + 3 * 11 + 0) (a 42 + c)) (9 + 3 * 11 + 1) (a 43 + t) := by
        unfold addA com cAt; rw [if_neg cz, if_pos c12, if_pos c12]
      refine ⟨up2 (up2 M 0 (9 + 3 * pm (M 50) 11) (iI (a 42 + c))) 0 (9 + 3 * pm (M 50) 11 + 1) (iI (a 43 + t)), ?_, ?_, fun q hq => by rw [up2_in _ (by omega), up2_in _ (by omega)], by rw [up2_gn (by omega), up2_gn (by omega)]⟩
      · rw [c12, if_pos (by decide), if_pos v11, t11, Nat.add_zero, if_pos (show (M 50 11).toNatClampNeg < 12 from hp)]
        unfold f_X6_mixWith
        show bnd2 (letB (up2 M 0 (9 + 3 * pm (M 50) 11) (M 0 (9 + 3 * pm (M 50) 11) + M G i)) _) _ = _
        rw [letB_e, p42, s0.1, iI_add, letB_e]
        show bnd2 (some ((), up2 _ 0 (9 + 3 * pm (M 50) 11 + 1) (up2 M 0 (9 + 3 * pm (M 50) 11) (iI (a 42 + c)) 0 (9 + 3 * pm (M 50) 11 + 1) + _))) _ = _
        rw [up2_in 0 (by omega), p43, s1.2, iI_add, bnd2_s]
      · rw [eA]
        exact ((CW.refl R).lot (i := 11) (f := 0) _ (by omega) (by omega) rfl).lot (i := 11) (f := 1) _ (by omega) (by omega) (by rw [up2_gn (by omega)])
    · obtain ⟨n, hn⟩ : ∃ n : Nat, a 8 = n := ⟨(a 8).toNat, by omega⟩
      have hp : pm (M 50) n < 12 := R.1.1 n (by omega)
      have tn : (iI (n : Int)).toNatClampNeg = n := iI_lo (by omega)
      have vn : vin (iI (n : Int)) 12 := vinI (by omega) (by omega)
      have tn1 : (iI ((n : Int) + 1) - 1).toNatClampNeg = n := by rw [Z1, iI_sub, show (n : Int) + 1 - 1 = n by omega, tn]
      have vn1 : vin (iI ((n : Int) + 1) - 1) 12 := by rw [Z1, iI_sub, show (n : Int) + 1 - 1 = n by omega]; exact vn
      obtain ⟨M4, hM4⟩ : ∃ M4, M4 = up2 (up2 (up2 (up2 M 0 (9 + 3 * pm (M 50) n) (iI 0)) 0 (9 + 3 * pm (M 50) n + 1) (iI 0)) 0 (11 + 3 * pm (M 50) n) (iI kd)) 0 8 (iI ((n : Int) + 1)) := ⟨_, rfl⟩
      have w4 : CW M M4 (com a kd) := by
        refine ⟨?_, fun G g1 g2 g3 g4 g5 => by rw [hM4, up2_gn g1, up2_gn g1, up2_gn g1, up2_gn g1]⟩
        have h := R.u_new hn (by omega) kd
        rw [hM4, up2_gr, up2_gr, up2_gr, up2_gr, up2_gn (show 40 ≠ 0 by omega), up2_gn (show 40 ≠ 0 by omega), up2_gn (show 40 ≠ 0 by omega), up2_gn (show 40 ≠ 0 by omega), up2_gn (show 50 ≠ 0 by omega), up2_gn (show 50 ≠ 0 by omega), up2_gn (show 50 ≠ 0 by omega), up2_gn (show 50 ≠ 0 by omega)]
        exact h
      have q45 : ∀ q, 45 ≤ q → M4 0 q = M 0 q := fun q hq => by rw [hM4, up2_in _ (by omega), up2_in _ (by omega), up2_in _ (by omega), up2_in _ (by omega)]
      have q60 : M4 60 = M 60 := by rw [hM4, up2_gn (by omega), up2_gn (by omega), up2_gn (by omega), up2_gn (by omega)]
      have q50 : M4 50 = M 50 := by rw [hM4, up2_gn (by omega), up2_gn (by omega), up2_gn (by omega), up2_gn (by omega)]
      have c8 : com a kd 8 = n + 1 := by unfold com; rw [if_neg c12, uI_n (by omega), uI_n (by omega), uI_n (by omega), uI_s, hn]
      have cAe : cAt a = 9 + 3 * n := by unfold cAt; rw [if_neg c12, hn, Int.toNat_natCast]
      have p0 : M4 0 (9 + 3 * pm (M 50) n) = iI (com a kd (cAt a)) := by
        have := w4.1.l0 (i := n) (by rw [c8]; omega)
        rw [q50] at this
        rw [this, cAe]
      have p1 : M4 0 (9 + 3 * pm (M 50) n + 1) = iI (com a kd (cAt a + 1)) := by
        have := w4.1.l1 (i := n) (by rw [c8]; omega)
        rw [q50] at this
        rw [this, cAe, show 9 + 3 * n + 1 = 10 + 3 * n by omega]
      have s4 := hs M4 q45 q60
      have s5 := hs (up2 M4 0 (9 + 3 * pm (M 50) n) (iI (com a kd (cAt a) + c))) (fun q hq => by rw [up2_in _ (by omega), q45 q hq]) (by rw [up2_gn (by omega), q60])
      refine ⟨up2 (up2 M4 0 (9 + 3 * pm (M 50) n) (iI (com a kd (cAt a) + c))) 0 (9 + 3 * pm (M 50) n + 1) (iI (com a kd (cAt a + 1) + t)), ?_, ?_, fun q hq => by rw [up2_in _ (by omega), up2_in _ (by omega), q45 q hq], by rw [up2_gn (by omega), up2_gn (by omega), q60]⟩
      · rw [if_neg (by rw [Z12, iI_le (by omega) (by omega)]; omega), hn, if_pos vn, tn, Nat.add_zero, if_pos (show (M 50 n).toNatClampNeg < 12 from hp)]
        rw [show f_X6_empty M 0 (9 + 3 * (M 50 n).toNatClampNeg) = some ((), up2 (up2 M 0 (9 + 3 * pm (M 50) n) (iI 0)) 0 (9 + 3 * pm (M 50) n + 1) (iI 0)) from rfl, bnd2_s]
        have g8 : up2 (up2 M 0 (9 + 3 * pm (M 50) n) (iI 0)) 0 (9 + 3 * pm (M 50) n + 1) (iI 0) 0 8 = iI (n : Int) := by rw [up2_in _ (by omega), up2_in _ (by omega), e8, hn]
        have g50 : up2 (up2 M 0 (9 + 3 * pm (M 50) n) (iI 0)) 0 (9 + 3 * pm (M 50) n + 1) (iI 0) 50 = M 50 := by rw [up2_gn (by omega), up2_gn (by omega)]
        rw [g8, if_pos vn, tn, g50, if_pos (show (M 50 n).toNatClampNeg < 12 from hp)]
        show letB (up2 _ 0 (11 + 3 * pm (M 50) n) (iI kd)) _ = _
        rw [letB_e, letB_e, up2_in 0 (show 8 ≠ 11 + 3 * pm (M 50) n by omega), g8, Z1, iI_add, ← hM4, ← Z1]
        have g9 : M4 0 8 = iI ((n : Int) + 1) := by rw [hM4, up2_eq]
        rw [g9, if_pos vn1, tn1, q50, if_pos (show (M 50 n).toNatClampNeg < 12 from hp)]
        unfold f_X6_mixWith
        show bnd2 (letB (up2 M4 0 (9 + 3 * pm (M 50) n) (M4 0 (9 + 3 * pm (M 50) n) + M4 G i)) _) _ = _
        rw [letB_e, p0, s4.1, iI_add, letB_e]
        show bnd2 (some ((), up2 _ 0 (9 + 3 * pm (M 50) n + 1) (up2 M4 0 (9 + 3 * pm (M 50) n) (iI (com a kd (cAt a) + c)) 0 (9 + 3 * pm (M 50) n + 1) + _))) _ = _
        rw [up2_in 0 (by omega), p1, s5.2, iI_add, bnd2_s]
      · have e : addA a kd c t = uI (uI (com a kd) (9 + 3 * n + 0) (com a kd (cAt a) + c)) (9 + 3 * n + 1) (com a kd (cAt a + 1) + t) := by
          unfold addA; rw [if_neg cz, cAe]; rfl
        rw [e]
        exact (w4.lot (i := n) (f := 0) _ (by omega) (by omega) (by rw [q50]; rfl)).lot (i := n) (f := 1) _ (by omega) (by omega) (by rw [up2_gn (by omega), q50])
end
