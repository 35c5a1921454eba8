section
/-! The call wagons: the reference takes up the bells. -/
theorem up2_24 (M : MM) (w : Nat → Int32) (a : Nat → Int) (z : Nat) (x : Int32) : up2 (RF (sg M 24 w) a) 24 z x = RF (sg M 24 (upd w z x)) a := by
  funext G
  by_cases h : G = 24
  · subst h; rw [up2_gr, RF_n (by omega), RF_n (by omega), sg_s, sg_s]
  · rw [up2_gn h]
    by_cases h1 : G = 21
    · subst h1; unfold RF; rw [sg_s, sg_s]
    · rw [RF_n h1, RF_n h1, sg_n h, sg_n h]
def tbR (a : Nat → Int) (x : Int32) (nb : Nat) : Int32 := if x < 0 then -1 else if (x >>> (iI ((cn (hereP a) nb : Nat) : Int) &&& 31) : Int32) = 0 then (if wlt a x nb = 0 then -2 else iI ((wsz a x nb : Nat) : Int)) else -1
theorem l_tb10 {k : Int} {M : MM} {a : Nat → Int} {nb : Nat} (hn : a 52 = nb) (h100 : nb ≤ 100) (h12 : cn (hereP a) nb ≤ 12) (hb : ∀ b, b < nb → BB k a b) (S : BS a) (x : Int32) : ∀ (j fu z : Nat) (w : Nat → Int32), z + j = nb → j < fu → (∀ i, i < wsz a x z → w i = iI (wwt a x z i)) → ∃ w', (∀ i, i < wsz a x nb → w' i = iI (wwt a x nb i)) ∧ lp_X11_takesBells_10 fu (RF (sg M 24 w) a) x (iI (wsz a x z)) (iI (cn (hereP a) z)) (iI (wlt a x z)) (iI z) = some (tbR a x nb, RF (sg M 24 w') a) := by
  have v52 : vin (52 : Int32) 1254 := by decide
  have t52 : (52 : Int32).toNatClampNeg = 52 := by decide
  have S' := S
  unfold BS at S'
  intro j
  induction j with
  | zero =>
    intro fu z w hz hf h2
    obtain ⟨f, rfl⟩ : ∃ f, fu = f + 1 := ⟨fu - 1, by omega⟩
    obtain rfl : z = nb := by omega
    refine ⟨w, h2, ?_⟩
    have h01 := wlt_01 a x z
    unfold lp_X11_takesBells_10 tbR
    rw [if_pos v52, t52, RF_21, hn, if_pos (by rw [iI_le (by omega) (by omega)]; omega)]
    by_cases c : x < 0
    · rw [if_pos c, if_pos c]
    · rw [if_neg c, if_neg c]
      by_cases d : (x >>> (iI ((cn (hereP a) z : Nat) : Int) &&& 31) : Int32) = 0
      · rw [if_pos d, if_pos d]
        by_cases e : wlt a x z = 0
        · rw [if_pos (by rw [e]; rfl), if_pos e]
        · rw [if_neg (by rw [Z0, iI_inj (by omega) (by omega)]; exact e), if_neg e]
      · rw [if_neg d, if_neg d]
  | succ j ih =>
    intro fu z w hz hf h2
    obtain ⟨f, rfl⟩ : ∃ f, fu = f + 1 := ⟨fu - 1, by omega⟩
    have Bz := hb z (by omega)
    obtain ⟨b1, b2, b3, b4, b5, b6, b7, b8, b9⟩ := Bz
    have e1 : iI (z : Int) + 1 = iI ((z + 1 : Nat) : Int) := by rw [Z1, iI_add]; congr 1
    have hcn := cn_mono (hereP a) (show z + 1 ≤ nb by omega)
    have hsz := wsz_le a x z
    unfold lp_X11_takesBells_10
    rw [if_pos v52, t52, RF_21, hn, if_neg (by rw [iI_le (by omega) (by omega)]; omega), r_isHere (by omega) b6, bnd2_s]
    by_cases c : a (60 + 8 * z) < 2
    · rw [ify c]
      have ht := here_t c
      have e2 : iI (cn (hereP a) z : Int) + 1 = iI ((cn (hereP a) (z + 1) : Nat) : Int) := by rw [Z1, iI_add, ht]; congr 1
      by_cases d : bt x (cn (hereP a) z)
      · have hsl : slP a x z := ⟨c, d⟩
        have hw1 : wsz a x (z + 1) = wsz a x z + 1 := by rw [wsz]; rw [if_pos hsl]
        have hw2 : wwt a x (z + 1) = uI (wwt a x z) (wsz a x z) (wgt a z) := by rw [wwt]; rw [if_pos hsl]
        have hw3 : wlt a x (z + 1) = if wlt a x z = 0 then 0 else if a 51 < wgt a z then 0 else 1 := by rw [wlt]; rw [if_pos hsl]
        have ts : (iI (wsz a x z : Int)).toNatClampNeg = wsz a x z := iI_lo (by omega)
        have vs : vin (iI (wsz a x z : Int)) 12 := vinI (by omega) (by omega)
        have e3 : iI (wsz a x z : Int) + 1 = iI ((wsz a x (z + 1) : Nat) : Int) := by rw [Z1, iI_add, hw1]; congr 1
        have hinv : ∀ i, i < wsz a x (z + 1) → upd w (wsz a x z) (iI (wgt a z)) i = iI (wwt a x (z + 1) i) := by
          intro i hi
          rw [hw1] at hi
          rw [hw2]
          by_cases e : i = wsz a x z
          · rw [e, upd_s, uI_s]
          · rw [upd_n e, uI_n e]; exact h2 i (by omega)
        obtain ⟨w', q1, q2⟩ := ih f (z + 1) (upd w (wsz a x z) (iI (wgt a z))) (by omega) (by omega) hinv
        refine ⟨w', q1, ?_⟩
        have h01 := wlt_01 a x z
        rw [if_pos (show ((x >>> (iI ((cn (hereP a) z : Nat) : Int) &&& 31)) &&& 1 : Int32) = 1 from d), r_atBell, bnd2_s, r_weightB (by omega), bnd2_s, if_pos vs]
        simp only [ts, up2_24, letB_e]
        by_cases e : wlt a x z = 0
        · rw [if_pos e] at hw3
          rw [hw3] at q2
          rw [if_pos (by rw [e]; rfl), e1, e2, e3]
          exact q2
        · rw [if_neg e] at hw3
          rw [if_neg (by rw [Z0, iI_inj (by omega) (by omega)]; exact e), if_pos vs, r_set6, bnd2_s, RF_n (show 24 ≠ 21 by omega), sg_s, upd_s, e1, e2, e3]
          by_cases g : a 51 < wgt a z
          · rw [if_pos g] at hw3
            rw [hw3] at q2
            rw [if_pos (by rw [iI_lt (by omega) (by omega)]; exact g)]
            exact q2
          · rw [if_neg g] at hw3
            rw [hw3] at q2
            rw [if_neg (by rw [iI_lt (by omega) (by omega)]; exact g)]
            exact q2
      · have hsl : ¬ slP a x z := fun q => d q.2
        have hw1 : wsz a x (z + 1) = wsz a x z := by rw [wsz]; rw [if_neg hsl]
        have hw2 : wwt a x (z + 1) = wwt a x z := by rw [wwt]; rw [if_neg hsl]
        have hw3 : wlt a x (z + 1) = wlt a x z := by rw [wlt]; rw [if_neg hsl]
        obtain ⟨w', q1, q2⟩ := ih f (z + 1) w (by omega) (by omega) (by rw [hw1, hw2]; exact h2)
        refine ⟨w', q1, ?_⟩
        rw [hw1, hw3] at q2
        rw [if_neg (show ¬ ((x >>> (iI ((cn (hereP a) z : Nat) : Int) &&& 31)) &&& 1 : Int32) = 1 from d), e1, e2]
        exact q2
    · have hsl : ¬ slP a x z := fun q => c q.1
      have hw1 : wsz a x (z + 1) = wsz a x z := by rw [wsz]; rw [if_neg hsl]
      have hw2 : wwt a x (z + 1) = wwt a x z := by rw [wwt]; rw [if_neg hsl]
      have hw3 : wlt a x (z + 1) = wlt a x z := by rw [wlt]; rw [if_neg hsl]
      obtain ⟨w', q1, q2⟩ := ih f (z + 1) w (by omega) (by omega) (by rw [hw1, hw2]; exact h2)
      refine ⟨w', q1, ?_⟩
      rw [hw1, hw3, here_f c] at q2
      rw [ifn c, e1]
      exact q2
/-! The pure packing. -/
def pck (o w l : Int) : Int := if o % 32768 + w ≤ l then o + w else o - o % 32768 + 32768 + w
def bst (B : Nat → Int) (W : Nat → Int) (l : Int) (n z : Nat) : Nat → Int
  | 0 => 32768 * (n + 1)
  | k + 1 => if tb z k then (if pck (B (z - 2 ^ k)) (W k) l < bst B W l n z k then pck (B (z - 2 ^ k)) (W k) l else bst B W l n z k) else bst B W l n z k
def Btb (W : Nat → Int) (l : Int) (n : Nat) : Nat → Nat → Int
  | 0 => uI (fun _ => 0) 0 l
  | m + 1 => uI (Btb W l n m) (m + 1) (bst (Btb W l n m) W l n (m + 1) n)
end
