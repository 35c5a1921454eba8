/-! The call tuneFor. -/
abbrev tStop (a : Nat → Int) (b : Nat) (z : Int) : Prop := a (54 + 8 * b) + a (55 + 8 * b) ≤ z ∨ crk (a (59 + 8 * b)) z (a (56 + 8 * b)) (a (58 + 8 * b))
abbrev pOK (a : Nat → Int) (o : Nat) (p : Int) : Prop := -(a (856 + 4 * o)) ≤ p - a (855 + 4 * o) ∧ p - a (855 + 4 * o) ≤ a (856 + 4 * o)
abbrev tlow (a : Nat → Int) (b : Nat) (z : Int) : Int := low (a (57 + 8 * b)) (a 50) z (a (54 + 8 * b) + a (55 + 8 * b))
def tF (a : Nat → Int) (b o : Nat) : Nat → Int
  | 0 => -4
  | i + 1 => if tStop a b ((1001 : Int) - (i + 1 : Nat)) then -4 else if pOK a o (tlow a b ((1001 : Int) - (i + 1 : Nat))) then (1001 : Int) - (i + 1 : Nat) else tF a b o i
theorem low_b {pi tu n w : Int} (h : 0 ≤ pi ∧ pi ≤ 2000000) (ht : 0 ≤ tu) (hn : 0 ≤ n) (hw : 0 ≤ w) : 0 ≤ low pi tu n w ∧ low pi tu n w ≤ 2000000 := by
  have h1 : 0 ≤ tu * 1000 * n := Int.mul_nonneg (by omega) hn
  have h2 : 0 ≤ tu * 1000 * n / w := Int.ediv_nonneg h1 hw
  unfold low
  split <;> omega
theorem l_fewest {k : Int} (hk : k ≤ 1000) {M : MM} {a : Nat → Int} (R : RA (M 0) (M 40) (M 50) a) {b o : Nat} (hb : b < (a 52).toNat) (ho : o < (a 53).toNat) (B : BB k a b) (O : BO a o) (S : BS a) (hw : 0 < a (54 + 8 * b) + a (55 + 8 * b)) {mo : Int} (hm : mo = if a (54 + 8 * b) + a (55 + 8 * b) - 1 < 1000 then a (54 + 8 * b) + a (55 + 8 * b) - 1 else 1000) : ∀ (i fu : Nat), i ≤ 1000 → i < fu → lp_X9_fewestPoundsToFit_33 fu M 0 b o (iI mo) (iI ((1001 : Int) - i)) = some (iI (tF a b o i), M) := by
  have B' := B
  obtain ⟨b1, b2, b3, b4, b5, b6, b7, b8, b9⟩ := B
  have S' := S
  unfold BS at S'
  have hmo : mo ≤ 1000 ∧ 0 ≤ mo := by rw [hm]; split <;> omega
  intro i
  induction i with
  | zero =>
    intro fu _ hf
    obtain ⟨f, rfl⟩ : ∃ f, fu = f + 1 := ⟨fu - 1, by omega⟩
    unfold lp_X9_fewestPoundsToFit_33
    rw [if_pos (by rw [iI_lt (by omega) (by omega)]; omega)]; rfl
  | succ i ih =>
    intro fu hi hf
    obtain ⟨f, rfl⟩ : ∃ f, fu = f + 1 := ⟨fu - 1, by omega⟩
    have ih' := ih f (by omega) (by omega)
    obtain ⟨z, hz⟩ : ∃ z, z = (1001 : Int) - (i + 1 : Nat) := ⟨_, rfl⟩
    have e1 : iI z + 1 = iI ((1001 : Int) - i) := by rw [Z1, iI_add]; congr 1; omega
    show _ = some (iI (if tStop a b ((1001 : Int) - (i + 1 : Nat)) then -4 else if pOK a o (tlow a b ((1001 : Int) - (i + 1 : Nat))) then (1001 : Int) - (i + 1 : Nat) else tF a b o i), M)
    rw [← hz]
    unfold lp_X9_fewestPoundsToFit_33
    by_cases c1 : a (54 + 8 * b) + a (55 + 8 * b) ≤ z
    · rw [if_pos (by rw [iI_lt (by omega) (by omega)]; rw [hm]; split <;> omega), if_pos (Or.inl c1)]; rfl
    · rw [if_neg (by rw [iI_lt (by omega) (by omega)]; rw [hm]; split <;> omega), c_cracksBy R hb hk B' (by omega) (by omega), bnd2_s]
      by_cases c2 : crk (a (59 + 8 * b)) z (a (56 + 8 * b)) (a (58 + 8 * b))
      · rw [ify c2, if_pos (Or.inr c2)]; rfl
      · have hl := low_b (pi := a (57 + 8 * b)) (tu := a 50) (n := z) (w := a (54 + 8 * b) + a (55 + 8 * b)) b3 (by omega) (by omega) (by omega)
        rw [ifn c2, if_neg (show ¬ tStop a b z from fun q => q.elim c1 c2), if_pos (show vin (5 : Int32) 7 from by decide), show (5 : Int32).toNatClampNeg = 5 from by decide, show M (40 + 0) 5 = iI (a 50) from R.se (j := 5) (by omega), c_pitchBehind R hb B' S (by omega) (by omega) hw, bnd2_s, c_takesPitch R ho hl O, bnd2_s]
        by_cases c3 : pOK a o (tlow a b z)
        · rw [ify c3, if_pos c3]
        · rw [ifn c3, if_neg c3, e1, ih']
theorem l_rTuneFor {k : Int} (hk : k ≤ 1000) {M : MM} {a : Nat → Int} {b o : Nat} (hb : b < 100) (ho : o < 100) (B : BB k a b) (O : BO a o) (S : BS a) (hw : 0 < a (54 + 8 * b) + a (55 + 8 * b)) : ∀ (i fu : Nat), i ≤ 1000 → i + 1 < fu → lp_X11_tuneFor_66 fu (RF M a) (iI b) (iI o) 1 (iI ((1001 : Int) - i)) = some (iI (tF a b o i), RF M a) := by
  have B' := B
  obtain ⟨b1, b2, b3, b4, b5, b6, b7, b8, b9⟩ := B
  have S' := S
  unfold BS at S'
  have stop : ∀ (f : Nat) (z : Int), 1 < f + 1 → 0 ≤ z → z ≤ 2000 → lp_X11_tuneFor_66 (f + 1) (RF M a) (iI b) (iI o) 0 (iI z) = some (iI (-4), RF M a) := by
    intro f z _ h0 h1
    unfold lp_X11_tuneFor_66
    by_cases c : (1000 : Int32) < iI z
    · rw [if_pos c]; rfl
    · rw [if_neg c, if_pos rfl]; rfl
  intro i
  induction i with
  | zero =>
    intro fu _ hf
    obtain ⟨f, rfl⟩ : ∃ f, fu = f + 1 := ⟨fu - 1, by omega⟩
    unfold lp_X11_tuneFor_66
    rw [if_pos (by rw [Z1000, iI_lt (by omega) (by omega)]; omega)]; rfl
  | succ i ih =>
    intro fu hi hf
    obtain ⟨f, rfl⟩ : ∃ f, fu = f + 1 + 1 := ⟨fu - 2, by omega⟩
    have ih' := ih (f + 1) (by omega) (by omega)
    obtain ⟨z, hz⟩ : ∃ z, z = (1001 : Int) - (i + 1 : Nat) := ⟨_, rfl⟩
    have e1 : iI z + 1 = iI ((1001 : Int) - i) := by rw [Z1, iI_add]; congr 1; omega
    show _ = some (iI (if tStop a b ((1001 : Int) - (i + 1 : Nat)) then -4 else if pOK a o (tlow a b ((1001 : Int) - (i + 1 : Nat))) then (1001 : Int) - (i + 1 : Nat) else tF a b o i), RF M a)
    rw [← hz]
    unfold lp_X11_tuneFor_66
    rw [if_neg (by rw [Z1000, iI_lt (by omega) (by omega)]; omega), if_neg (show ¬ (1 : Int32) = 0 from by decide), r_atBell, bnd2_s, r_weightB hb, bnd2_s]
    by_cases c1 : a (54 + 8 * b) + a (55 + 8 * b) ≤ z
    · rw [if_pos (by rw [iI_le (by omega) (by omega)]; exact c1), if_pos (show (0 : Int32) = 0 from rfl), if_pos (show tStop a b z from Or.inl c1), e1]
      exact stop f _ (by omega) (by omega) (by omega)
    · rw [if_neg (by rw [iI_le (by omega) (by omega)]; exact c1), r_wouldCrack hb (by omega) (by omega) (by omega) (by omega) (by omega), bnd2_s]
      by_cases c2 : crk (a (59 + 8 * b)) z (a (56 + 8 * b)) (a (58 + 8 * b))
      · rw [ify c2, if_pos (show (0 : Int32) = 0 from rfl), if_pos (show tStop a b z from Or.inr c2), e1]
        exact stop f _ (by omega) (by omega) (by omega)
      · have hl := low_b (pi := a (57 + 8 * b)) (tu := a 50) (n := z) (w := a (54 + 8 * b) + a (55 + 8 * b)) b3 (by omega) (by omega) (by omega)
        rw [ifn c2, if_neg (show ¬ (1 : Int32) = 0 from by decide), if_neg (show ¬ tStop a b z from fun q => q.elim c1 c2), r_lowered hb (by omega) (by omega) b3 S hw b1.2.2, bnd2_s, r_isPitch ho hl O, bnd2_s]
        by_cases c3 : pOK a o (tlow a b z)
        · rw [ify c3, if_pos c3]
        · rw [ifn c3, if_neg c3, e1, ih']
theorem o_tuneFor {k : Int} (hk : k ≤ 1000) (x y : Int32) : CALL k (fun M => f_X10_tuneFor M x y) (fun M => f_X11_tuneFor M x y) := by
  apply both
  intro M a n H L t vc vb
  obtain ⟨X, hX, rfl⟩ := ofI x
  obtain ⟨Y, hY, rfl⟩ := ofI y
  have R := vc.1
  have hM := vb.1.1
  unfold BM at hM
  have hS := vb.1.2.1
  by_cases hx : 0 ≤ X ∧ X ≤ a 52 - 1
  · obtain ⟨b, rfl⟩ : ∃ j : Nat, X = j := ⟨X.toNat, by omega⟩
    have hb : b < (a 52).toNat := by omega
    have Bb := vb.1.2.2.2.1 b hb
    obtain ⟨b1, b2, b3, b4, b5, b6, b7, b8, b9⟩ := Bb
    have Bb := vb.1.2.2.2.1 b hb
    by_cases hy : 0 ≤ Y ∧ Y ≤ a 53 - 1
    · obtain ⟨o, rfl⟩ : ∃ j : Nat, Y = j := ⟨Y.toNat, by omega⟩
      have ho : o < (a 53).toNat := by omega
      have Bo := vb.1.2.2.2.2.1 o ho
      have Bo' := Bo
      unfold BO at Bo'
      refine ⟨iI (if a (60 + 8 * b) = 0 then (if fit a b o then 0 else if a (56 + 8 * b) = a (854 + 4 * o) then tF a b o 1000 else -4) else -2), a, n, H, L, t, vb.succ, OPC.same vc ?_, fun M1 vr => OPR.go (f := fun M => f_X11_tuneFor M (iI b) (iI o)) vr ?_⟩
      · unfold f_X10_tuneFor optE
        rw [bellAt_some R hb, bnd2_s]
        simp only
        rw [orderAt_some R ho, bnd2_s]
        simp only
        rw [R.b6 hb]
        by_cases c0 : a (60 + 8 * b) = 0
        · rw [if_pos (by rw [c0]; rfl), if_pos c0, c_isFitBy R hb ho Bb Bo, bnd2_s]
          by_cases c1 : fit a b o
          · rw [ify c1, if_pos c1]; rfl
          · rw [ifn c1, if_neg c1]
            unfold f_X9_fewestPoundsToFit
            rw [R.b2 hb, R.o0 ho]
            by_cases c2 : a (56 + 8 * b) = a (854 + 4 * o)
            · have q := l_fewest hk R hb ho Bb Bo hS (by omega) rfl 1000 FU (by omega) (by unfold FU; omega)
              rw [if_pos (by rw [c2]), if_pos c2, e_weight, bnd2_s, R.b0 hb, R.b1 hb, iI_add, Z1, iI_sub, Z1000, e_jmin (by omega) (by omega)]
              rw [show iI ((1001 : Int) - ((1000 : Nat) : Int)) = iI 1 from rfl] at q
              rw [q, bnd2_s]
            · rw [if_neg (by rw [iI_inj (by omega) (by omega)]; exact c2), if_neg c2]; rfl
        · rw [if_neg (by rw [Z0, iI_inj (by omega) (by omega)]; exact c0), if_neg c0]; rfl
      · show f_X11_tuneFor _ _ _ = _
        unfold f_X11_tuneFor
        rw [r_isBell hX (by omega), bnd2_s, ify hx, r_isOrder hY (by omega), bnd2_s, ify hy, r_of6 (by omega), bnd2_s]
        by_cases c0 : a (60 + 8 * b) = 0
        · rw [if_pos (by rw [c0]; rfl), if_pos c0, r_fits (by omega) (by omega) Bb Bo, bnd2_s]
          by_cases c1 : fit a b o
          · rw [ify c1, if_pos c1]; rfl
          · rw [ifn c1, if_neg c1, r_of2 (by omega), bnd2_s, r_oo0 (by omega), bnd2_s]
            by_cases c2 : a (56 + 8 * b) = a (854 + 4 * o)
            · have q := l_rTuneFor (M := M1) hk (show b < 100 by omega) (show o < 100 by omega) Bb Bo hS (by omega) 1000 FU (by omega) (by unfold FU; omega)
              rw [if_pos (by rw [c2]), if_pos c2]
              exact q
            · rw [if_neg (by rw [iI_inj (by omega) (by omega)]; exact c2), if_neg c2]
              obtain ⟨fu, hfu⟩ := FUs
              rw [hfu]
              unfold lp_X11_tuneFor_66
              rw [if_neg (show ¬ (1000 : Int32) < 1 from by decide), if_pos rfl]; rfl
        · rw [if_neg (by rw [Z0, iI_inj (by omega) (by omega)]; exact c0), if_neg c0]; rfl
    · refine ⟨-1, a, n, H, L, t, vb.succ, OPC.same vc ?_, fun M1 vr => OPR.go (f := fun M => f_X11_tuneFor M (iI b) (iI Y)) vr ?_⟩
      · unfold f_X10_tuneFor optE
        rw [bellAt_some R hb, bnd2_s]
        simp only
        rw [orderAt_none R (by omega) hY hy, bnd2_s]
      · show f_X11_tuneFor _ _ _ = _
        unfold f_X11_tuneFor
        rw [r_isBell hX (by omega), bnd2_s, ify hx, r_isOrder hY (by omega), bnd2_s, ifn hy]
  · refine ⟨-1, a, n, H, L, t, vb.succ, OPC.same vc ?_, fun M1 vr => OPR.go (f := fun M => f_X11_tuneFor M (iI X) (iI Y)) vr ?_⟩
    · unfold f_X10_tuneFor optE
      rw [bellAt_none R (by omega) hX hx, bnd2_s]
      simp only
      by_cases hy : 0 ≤ Y ∧ Y ≤ a 53 - 1
      · obtain ⟨o, rfl⟩ : ∃ j : Nat, Y = j := ⟨Y.toNat, by omega⟩
        rw [orderAt_some R (by omega), bnd2_s]
      · rw [orderAt_none R (by omega) hY hy, bnd2_s]
    · show f_X11_tuneFor _ _ _ = _
      unfold f_X11_tuneFor
      rw [r_isBell hX (by omega), bnd2_s, ifn hx]
