/-! The call tuneFor. -/
abbrev tStop (a : Nat → Int) (b : Nat) (z : Int) : Prop := a (54 + 8 * b) + a (55 + 8 * b) ≤ z ∨ crk (a (59 + 8 * b)) z (a (56 + 8 * b)) (a (58 + 8 * b))
abbrev pOK (a : Nat → Int) (o : Nat) (p : Int) : Prop := -(a (856 + 4 * o)) ≤ p - a (855 + 4 * o) ∧ p - a (855 + 4 * o) ≤ a (856 + 4 * o)
abbrev tlow (a : Nat → Int) (b : Nat) (z : Int) : Int := low (a (57 + 8 * b)) (a 50) z (a (54 + 8 * b) + a (55 + 8 * b))
def tF (a : Nat → Int) (b o : Nat) : Nat → Int
  | 0 => -4
  | i + 1 => if tStop a b ((1001 : Int) - (i + 1 : Nat)) then -4 else if pOK a o (tlow a b ((1001 : Int) - (i + 1 : Nat))) then (1001 : Int) - (i + 1 : Nat) else tF a b o i
theorem low_b {pi tu n w : Int} (h : 0 ≤ pi ∧ pi ≤ 2000000) (ht : 0 ≤ tu) (hn : 0 ≤ n) (hw : 0 ≤ w) : 0 ≤ low pi tu n w ∧ low pi tu n w ≤ 2000000 := by
  have h1 : 0 ≤ tu * 1000 * n := Int.mul_nonneg (by omega) hn
  have h2 : 0 ≤ tu * 1000 * n / w := Int.ediv_nonneg h1 hw
  unfold low
  split <;> omega
theorem l_fewest {k : Int} (hk : k ≤ 1000) {M : MM} {a : Nat → Int} (R : RA (M 0) (M 40) (M 50) a) {b o : Nat} (hb : b < (a 52).toNat) (ho : o < (a 53).toNat) (B : BB k a b) (O : BO a o) (S : BS a) (hw : 0 < a (54 + 8 * b) + a (55 + 8 * b)) {mo : Int} (hm : mo = if a (54 + 8 * b) + a (55 + 8 * b) - 1 < 1000 then a (54 + 8 * b) + a (55 + 8 * b) - 1 else 1000) : ∀ (i fu : Nat), i ≤ 1000 → i < fu → lp_X9_fewestPoundsToFit_33 fu M 0 b o (iI mo) (iI ((1001 : Int) - i)) = some (iI (tF a b o i), M) := by
  have B' := B
  obtain ⟨b1, b2, b3, b4, b5, b6, b7, b8, b9⟩ := B
  have S' := S
  unfold BS at S'
  have hmo : mo ≤ 1000 ∧ 0 ≤ mo := by rw [hm]; split <;> omega
  intro i
  induction i with
  | zero =>
    intro fu _ hf
    obtain ⟨f, rfl⟩ : ∃ f, fu = f + 1 := ⟨fu - 1, by omega⟩
    unfold lp_X9_fewestPoundsToFit_33
    rw [if_pos (by rw [iI_lt (by omega) (by omega)]; omega)]; rfl
  | succ i ih =>
    intro fu hi hf
    obtain ⟨f, rfl⟩ : ∃ f, fu = f + 1 := ⟨fu - 1, by omega⟩
    have ih' := ih f (by omega) (by omega)
    obtain ⟨z, hz⟩ : ∃ z, z = (1001 : Int) - (i + 1 : Nat) := ⟨_, rfl⟩
    have e1 : iI z + 1 = iI ((1001 : Int) - i) := by rw [Z1, iI_add]; congr 1; omega
    show _ = some (iI (if tStop a b ((1001 : Int) - (i + 1 : Nat)) then -4 else if pOK a o (tlow a b ((1001 : Int) - (i + 1 : Nat))) then (1001 : Int) - (i + 1 : Nat) else tF a b o i), M)
    rw [← hz]
    unfold lp_X9_fewestPoundsToFit_33
    by_cases c1 : a (54 + 8 * b) + a (55 + 8 * b) ≤ z
    · rw [if_pos (by rw [iI_lt (by omega) (by omega)]; rw [hm]; split <;> omega), if_pos (Or.inl c1)]; rfl
    · rw [if_neg (by rw [iI_lt (by omega) (by omega)]; rw [hm]; split <;> omega), c_cracksBy R hb hk B' (by omega) (by omega), bnd2_s]
      by_cases c2 : crk (a (59 + 8 * b)) z (a (56 + 8 * b)) (a (58 + 8 * b))
      · rw [ify c2, if_pos (Or.inr c2)]; rfl
      · have hl := low_b (pi := a (57 + 8 * b)) (tu := a 50) (n := z) (w := a (54 + 8 * b) + a (55 + 8 * b)) b3 (by omega) (by omega) (by omega)
        rw [ifn c2, if_neg (show ¬ tStop a b z from fun q => q.elim c1 c2), if_pos (show vin (5 : Int32) 7 from by decide), show (5 : Int32).toNatClampNeg = 5 from by decide, show M (40 + 0) 5 = iI (a 50) from R.se (j := 5) (by omega), c_pitchBehind R hb B' S (by omega) (by omega) hw, bnd2_s, c_takesPitch R ho hl O, bnd2_s]
        by_cases c3 : pOK a o (tlow a b z)
        · rw [ify c3, if_pos c3]
        · rw [ifn c3, if_neg c3, e1, ih']
