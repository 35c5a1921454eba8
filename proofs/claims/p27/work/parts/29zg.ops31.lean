section
/-! Frames: the class's parts. -/
theorem sm_rng {f : Nat → Int} {x : Nat} : ∀ j : Nat, (∀ k, x ≤ k → k < x + j → 0 ≤ f k ∧ f k ≤ 10000) → 0 ≤ sm f (x + j) - sm f x ∧ sm f (x + j) - sm f x ≤ 10000 * j := by
  intro j
  induction j with
  | zero => intro _; rw [Nat.add_zero]; omega
  | succ j ih =>
    intro h
    have h1 := ih (fun k k1 k2 => h k k1 (by omega))
    have h2 := h (x + j) (by omega) (by omega)
    have e : sm f (x + (j + 1)) = sm f (x + j) + f (x + j) := rfl
    rw [e]
    omega
theorem sm_b {f : Nat → Int} {x y : Nat} (h : x ≤ y) (hf : ∀ k, x ≤ k → k < y → 0 ≤ f k ∧ f k ≤ 10000) : 0 ≤ sm f y - sm f x ∧ sm f y - sm f x ≤ 10000 * ((y : Int) - x) := by
  have := sm_rng (f := f) (x := x) (y - x) (fun k k1 k2 => hf k k1 (by omega))
  rw [show x + (y - x) = y by omega] at this
  omega
theorem sm_cg {f g : Nat → Int} : ∀ n : Nat, (∀ k, k < n → f k = g k) → sm f n = sm g n := by
  intro n
  induction n with
  | zero => intro _; rfl
  | succ n ih =>
    intro h
    show sm f n + f n = sm g n + g n
    rw [ih (fun k hk => h k (by omega)), h n (by omega)]
theorem lod.cg {M : MM} {q : Nat} {a : Nat → Int} {hb dp hb' dp' : Nat → Nat} {x y d : Nat} (h : lod M q a hb dp x y d) (e : ∀ k, k < y → hb' k = hb k ∧ dp' k = dp k) : lod M q a hb' dp' x y d := by
  obtain ⟨h1, V, D, h2, h3, h4⟩ := h
  have hxy := h4.1
  refine ⟨?_, V, D, h2, h3, LVL_congr h4 (fun k _ k2 => (e k k2).1) (fun k _ k2 => (e k k2).2)⟩
  rw [h1, sm_cg (f := fwt a hb') (g := fwt a hb) y (fun k hk => by unfold fwt; rw [(e k hk).1]), sm_cg (f := fwt a hb') (g := fwt a hb) x (fun k hk => by unfold fwt; rw [(e k (by omega)).1])]
def exN (op : Nat) (bc : Nat → Nat) : Nat := if op = 0 then 3 else if bc (op - 1) = 0 then 1 else 2
theorem exN_3 (op : Nat) (bc : Nat → Nat) : exN op bc ≤ 3 ∧ exN op bc ≠ 0 := by unfold exN; split <;> (try split) <;> omega
theorem c_endFrame {M : MM} {op : Nat} {bc : Nat → Nat} (h6 : M 10 6 = iI op) (h5 : op ≤ 5) (h12 : 0 < op → M 12 (op - 1) = iI (bc (op - 1)) ∧ bc (op - 1) ≤ 1) : f_X1_endFrame M = some ((), up2 M 10 0 (iI (exN op bc))) := by
  unfold f_X1_endFrame exN
  rw [h6]
  by_cases c : op = 0
  · rw [if_neg (by rw [Z1, iI_le (by omega) (by omega)]; omega), letB_e, if_pos c]; rfl
  · obtain ⟨q1, q2⟩ := h12 (by omega)
    have e : iI (op : Int) - 1 = iI ((op - 1 : Nat) : Int) := by rw [Z1, iI_sub]; congr 1; omega
    rw [if_pos (by rw [Z1, iI_le (by omega) (by omega)]; omega), e, if_pos (vinI (by omega) (by omega)), iI_lo (by omega), q1, if_neg c]
    by_cases d : bc (op - 1) = 0
    · rw [if_pos (by rw [d]; rfl), letB_e, if_pos d]; rfl
    · rw [if_neg (by rw [Z0, iI_inj (by omega) (by omega)]; omega), letB_e, if_neg d]; rfl
theorem c_bell {k : Int} {M : MM} {a : Nat → Int} (R : RA (M 0) (M 40) (M 50) a) (hB : ∀ b, b < (a 52).toNat → BB k a b) {pos op mn bm ds : Nat} {sl : Int} {hb dp c bc : Nat → Nat} (h : fcI M a 0 op mn bm ds sl hb dp c bc) (g : fgI a 0 pos op mn bm ds sl hb dp c bc) (hL : pos < 60) {b : Nat} (hb1 : b < (a 52).toNat) (hb2 : a (60 + 8 * b) < 2) (hb3 : ∀ k, k < mn → hb k ≠ b) : ∃ M1, f_X1_readBell M 0 (iI b) = some (0, M1) ∧ CFr M M1 ∧ fcI M1 a (exN op bc) op (mn + 1) bm ds sl (uN1 hb mn b) (uN1 dp mn op) c bc := by
  have hcb := R.cb
  obtain ⟨⟨h1, h2, h3, h4, h6, h7⟩, h8, h9, h10, h11⟩ := h
  obtain ⟨⟨g1, g2, g3, g4, g5, g6, g7, g8⟩, g9, -, g11, g12, g13, g14⟩ := g
  rw [if_pos rfl] at g8
  have Bb := hB b hb1
  obtain ⟨b1, b2, b3, b4, b5, b6, b7, b8, b9⟩ := Bb
  have em : iI (mn : Int) + 1 = iI ((mn + 1 : Nat) : Int) := by rw [Z1, iI_add]; congr 1
  have tb' : (iI (b : Int)).toNatClampNeg = b := iI_lo (by omega)
  have vb : vin (iI (b : Int)) 100 := vinI (by omega) (by omega)
  obtain ⟨M3, hM3⟩ : ∃ M3, M3 = up2 (up2 (up2 (up2 (up2 M 13 b 1) 10 8 (iI ((mn + 1 : Nat) : Int))) 75 0 (iI (wgt a b))) 75 1 (iI (wgt a b))) 75 2 1 := ⟨_, rfl⟩
  have w6 : M3 10 6 = iI op := by
    rw [hM3, up2_gn (by omega), up2_gn (by omega), up2_gn (by omega), up2_in _ (by omega), up2_gn (by omega)]; exact h2
  have w12 : M3 12 = M 12 := by rw [hM3, up2_gn (by omega), up2_gn (by omega), up2_gn (by omega), up2_gn (by omega), up2_gn (by omega)]
  have ee := c_endFrame (M := M3) (bc := bc) w6 g1 (fun h0 => by rw [w12]; exact ⟨h8 _ (by omega), (g12 _ (by omega)).1⟩)
  refine ⟨up2 M3 10 0 (iI (exN op bc)), ?_, CFr.up ?_ _ (by omega), ?_⟩
  · unfold f_X1_readBell optE
    rw [h1, if_pos (by rfl), bellAt_some R hb1, bnd2_s]
    simp only
    rw [c_remains R hb1 b6, bnd2_s, ify hb2, if_pos vb]
    simp only [tb']
    rw [if_pos ((h11 b (by omega)).mpr hb3), if_pos vb, letB_e, up2_gn (show 10 ≠ 13 by omega), h3, em, letB_e, e_weight, bnd2_s, up2_gn (show 0 ≠ 10 by omega), up2_gn (show 0 ≠ 13 by omega), R.b0 hb1, R.b1 hb1, iI_add]
    unfold f_X4_hangBell
    rw [letB_e, letB_e, letB_e, bnd2_s]
    show bnd2 (f_X1_endFrame (up2 (up2 (up2 (up2 (up2 M 13 b 1) 10 8 (iI ((mn + 1 : Nat) : Int))) 75 0 (iI (wgt a b))) 75 1 (iI (wgt a b))) 75 2 1)) _ = _
    rw [← hM3, ee, bnd2_s]
  · rw [hM3]
    exact (((((CFr.refl M).up _ (by omega)).up _ (by omega)).up _ (by omega)).up _ (by omega)).up _ (by omega)
  · have cg : ∀ y, y ≤ mn → ∀ k, k < y → uN1 hb mn b k = hb k ∧ uN1 dp mn op k = dp k := fun y hy k hk => ⟨uN1_n (by omega), uN1_n (by omega)⟩
    refine ⟨⟨?_, ?_, ?_, ?_, ?_, ?_⟩, fun i hi => ?_, fun i hi hbc => ?_, fun _ => ?_, fun b' hb' => ?_⟩
    · rw [up2_eq]
    · rw [up2_in _ (by omega)]; exact w6
    · rw [up2_in _ (by omega), hM3, up2_gn (by omega), up2_gn (by omega), up2_gn (by omega), up2_eq]
    · rw [up2_in _ (by omega), hM3, up2_gn (by omega), up2_gn (by omega), up2_gn (by omega), up2_in _ (by omega), up2_gn (by omega)]; exact h4
    · rw [up2_in _ (by omega), hM3, up2_gn (by omega), up2_gn (by omega), up2_gn (by omega), up2_in _ (by omega), up2_gn (by omega)]; exact h6
    · rw [up2_in _ (by omega), hM3, up2_gn (by omega), up2_gn (by omega), up2_gn (by omega), up2_in _ (by omega), up2_gn (by omega)]; exact h7
    · rw [up2_gn (by omega), w12]; exact h8 i hi
    · refine lod.congr (M := M) ((h9 i hi hbc).cg (cg _ (g13 (i + 1) (by omega)))) ?_
      rw [up2_gn (by omega), hM3, up2_gn (by omega), up2_gn (by omega), up2_gn (by omega), up2_gn (by omega), up2_gn (by omega)]
    · have e0 : uN1 hb mn b mn = b := uN1_s _ _ _
      have hl := LVL_one (a := a) (hb := uN1 hb mn b) (dp := uN1 dp mn op) (m := mn) (d := op) (uN1_s _ _ _)
      rw [e0] at hl
      rw [g11.2 rfl]
      refine ⟨?_, wgt a b, 0, ?_, ?_, hl⟩
      · rw [up2_gn (by omega), hM3, up2_in _ (by omega), up2_in _ (by omega), up2_eq]
        congr 1
        show _ = sm (fwt a (uN1 hb mn b)) mn + fwt a (uN1 hb mn b) mn - sm (fwt a (uN1 hb mn b)) mn
        unfold fwt
        rw [e0]; omega
      · rw [up2_gn (by omega), hM3, up2_in _ (by omega), up2_eq]
      · rw [up2_gn (by omega), hM3, up2_eq]; rfl
    · rw [up2_gn (by omega), hM3, up2_gn (by omega), up2_gn (by omega), up2_gn (by omega), up2_gn (by omega), up2_gr]
      by_cases e : b' = b
      · subst e
        rw [upd_s]
        exact ⟨fun q => absurd q (by decide), fun q => absurd (uN1_s hb mn b') (q mn (by omega))⟩
      · rw [upd_n e, h11 b' hb']
        constructor
        · intro q k hk
          by_cases e2 : k = mn
          · rw [e2, uN1_s]; exact fun q => e q.symm
          · rw [uN1_n e2]; exact q k (by omega)
        · intro q k hk
          have := q k (by omega)
          rwa [uN1_n (by omega)] at this
theorem g_bell {a : Nat → Int} {pos pos' op mn bm ds : Nat} {sl : Int} {hb dp c bc : Nat → Nat} (g : fgI a 0 pos op mn bm ds sl hb dp c bc) {b : Nat} (hb1 : b < (a 52).toNat) (hb2 : a (60 + 8 * b) < 2) (hp : pos < pos') : fgI a (exN op bc) pos' op (mn + 1) bm ds sl (uN1 hb mn b) (uN1 dp mn op) c bc := by
  obtain ⟨⟨g1, g2, g3, g4, g5, g6, g7, g8⟩, g9, g10, g11, g12, g13, g14⟩ := g
  rw [if_pos rfl] at g8
  have hex := exN_3 op bc
  refine ⟨⟨g1, g2, g3, hex.1, by omega, g6, g7, by rw [if_neg hex.2]; omega⟩, fun k hk => ?_, Or.inl ?_, ⟨g11.1, fun q => absurd q hex.2⟩, g12, fun i hi => by have := g13 i hi; omega, fun q => ?_, fun q => ?_, fun q => ?_⟩
  · by_cases e : k = mn
    · rw [e, uN1_s, uN1_s]; exact ⟨hb1, hb2, g3⟩
    · rw [uN1_n e, uN1_n e]; exact g9 k (by omega)
  · rcases g10 with ⟨k, k1, k2⟩ | ⟨_, k2⟩
    · exact ⟨k, by omega, by rw [uN1_n (by omega)]; exact k2⟩
    · exact ⟨mn, by omega, by rw [uN1_s]; exact k2.symm⟩
  · unfold exN at q
    by_cases e : op = 0
    · rw [if_pos e] at q; omega
    · rw [if_neg e] at q
      by_cases e2 : bc (op - 1) = 0
      · exact ⟨by omega, e2⟩
      · rw [if_neg e2] at q; omega
  · unfold exN at q
    by_cases e : op = 0
    · rw [if_pos e] at q; omega
    · rw [if_neg e] at q
      by_cases e2 : bc (op - 1) = 0
      · rw [if_pos e2] at q; omega
      · have := (g12 (op - 1) (by omega)).1
        exact ⟨by omega, by omega⟩
  · unfold exN at q
    by_cases e : op = 0
    · exact e
    · rw [if_neg e] at q
      split at q <;> omega
theorem c_comma {M : MM} {a : Nat → Int} {pos i0 mn bm ds : Nat} {sl : Int} {hb dp c bc : Nat → Nat} (h : fcI M a 1 (i0 + 1) mn bm ds sl hb dp c bc) (g : fgI a 1 pos (i0 + 1) mn bm ds sl hb dp c bc) : ∃ M1, f_X1_passComma M = some (0, M1) ∧ CFr M M1 ∧ fcI M1 a 0 (i0 + 1) mn bm ds sl hb dp (uN1 c (i0 + 1) mn) (uN1 bc i0 1) := by
  obtain ⟨⟨h1, h2, h3, h4, h6, h7⟩, h8, h9, h10, h11⟩ := h
  obtain ⟨⟨g1, g2, g3, g4, g5, g6, g7, g8⟩, g9, -, g11, g12, g13, g14, g15⟩ := g
  have hbc0 : bc i0 = 0 := (g14 rfl).2
  have hc0 : c (i0 + 1) = c i0 := (g12 i0 (by omega)).2 hbc0
  have e : iI ((i0 + 1 : Nat) : Int) - 1 = iI (i0 : Int) := by rw [Z1, iI_sub]; congr 1; omega
  have v : vin (iI (i0 : Int)) 5 := vinI (by omega) (by omega)
  have t0 : (iI (i0 : Int)).toNatClampNeg = i0 := iI_lo (by omega)
  have n1 : vp_nar .boolean (1 : Int32) = 1 := rfl
  obtain ⟨M3, hM3⟩ : ∃ M3, M3 = up2 (up2 (up2 M (70 + i0) 0 (M 75 0)) (70 + i0) 1 (M 75 1)) (70 + i0) 2 (M 75 2) := ⟨_, rfl⟩
  have w10 : M3 10 = M 10 := by rw [hM3, up2_gn (by omega), up2_gn (by omega), up2_gn (by omega)]
  have ec : f_X4_copyFrom M i0 5 = some ((), M3) := by
    unfold f_X4_copyFrom
    rw [letB_e, letB_e, letB_e, hM3, up2_gn (show 70 + 5 ≠ 70 + i0 by omega), up2_gn (show 70 + 5 ≠ 70 + i0 by omega), up2_gn (show 70 + 5 ≠ 70 + i0 by omega)]
  refine ⟨up2 (up2 M3 12 i0 1) 10 0 0, ?_, CFr.up (CFr.up ?_ _ (by omega)) _ (by omega), ?_⟩
  · unfold f_X1_passComma
    rw [h1, if_pos (by rfl), h2, if_pos (by rw [Z1, iI_le (by omega) (by omega)]; omega), e, if_pos v, t0, ec, bnd2_s, w10, h2, e, if_pos v, t0, n1, letB_e, letB_e]
  · rw [hM3]
    exact (((CFr.refl M).up _ (by omega)).up _ (by omega)).up _ (by omega)
  · refine ⟨⟨?_, ?_, ?_, ?_, ?_, ?_⟩, fun i hi => ?_, fun i hi hbc => ?_, fun he => absurd rfl he, fun b' hb' => ?_⟩
    · rw [up2_eq]; rfl
    · rw [up2_in _ (by omega), up2_gn (by omega), w10]; exact h2
    · rw [up2_in _ (by omega), up2_gn (by omega), w10]; exact h3
    · rw [up2_in _ (by omega), up2_gn (by omega), w10]; exact h4
    · rw [up2_in _ (by omega), up2_gn (by omega), w10]; exact h6
    · rw [up2_in _ (by omega), up2_gn (by omega), w10]; exact h7
    · rw [up2_gn (by omega), up2_gr]
      by_cases e2 : i = i0
      · rw [e2, upd_s, uN1_s]; rfl
      · rw [upd_n e2, uN1_n e2, hM3, up2_gn (by omega), up2_gn (by omega), up2_gn (by omega)]; exact h8 i hi
    · by_cases e2 : i = i0
      · rw [e2, uN1_s, uN1_n (by omega), ← hc0]
        obtain ⟨l1, V, D, l2, l3, l4⟩ := h10 (by omega)
        refine ⟨?_, V, D, ?_, ?_, l4⟩
        · rw [up2_gn (by omega), up2_gn (by omega), hM3, up2_in _ (by omega), up2_in _ (by omega), up2_eq]; exact l1
        · rw [up2_gn (by omega), up2_gn (by omega), hM3, up2_in _ (by omega), up2_eq]; exact l2
        · rw [up2_gn (by omega), up2_gn (by omega), hM3, up2_eq]; exact l3
      · rw [uN1_n e2] at hbc
        rw [uN1_n (by omega), uN1_n (by omega)]
        refine (h9 i hi hbc).congr ?_
        rw [up2_gn (by omega), up2_gn (by omega), hM3, up2_gn (by omega), up2_gn (by omega), up2_gn (by omega)]
    · rw [up2_gn (by omega), up2_gn (by omega), hM3, up2_gn (by omega), up2_gn (by omega), up2_gn (by omega)]; exact h11 b' hb'
theorem g_comma {a : Nat → Int} {pos i0 mn bm ds : Nat} {sl : Int} {hb dp c bc : Nat → Nat} (g : fgI a 1 pos (i0 + 1) mn bm ds sl hb dp c bc) : fgI a 0 (pos + 1) (i0 + 1) mn bm ds sl hb dp (uN1 c (i0 + 1) mn) (uN1 bc i0 1) := by
  obtain ⟨⟨g1, g2, g3, g4, g5, g6, g7, g8⟩, g9, g10, g11, g12, g13, g14, g15⟩ := g
  rw [if_neg (by omega)] at g8
  refine ⟨⟨g1, g2, g3, by omega, by omega, g6, g7, by rw [if_pos rfl]; omega⟩, g9, Or.inl ?_, ⟨by rw [uN1_n (by omega)]; exact g11.1, fun _ => uN1_s _ _ _⟩, fun i hi => ?_, fun i hi => ?_, fun q => absurd q (by omega), fun q => absurd q (by omega), fun q => absurd q (by omega)⟩
  · rcases g10 with h | ⟨h, _⟩
    · exact h
    · omega
  · by_cases e : i = i0
    · rw [e, uN1_s]; exact ⟨by omega, fun q => by omega⟩
    · rw [uN1_n e, uN1_n (by omega), uN1_n (by omega)]; exact g12 i hi
  · by_cases e : i = i0 + 1
    · rw [e, uN1_s]; omega
    · rw [uN1_n e]; exact g13 i hi
end
