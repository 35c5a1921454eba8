/-! The class's small methods over its works; how a call is put together. -/
theorem e_inL {M : MM} {x : Int} (l h : Int) {A B : Int32} (hx : B31 x) (hA : A = iI l) (hB : B = iI h) (h1 : B31 l) (h2 : B31 h) : f_X10_isIn M (iI x) A B = some (dI (l ≤ x ∧ x ≤ h), M) := by
  rw [hA, hB]; exact e_isIn hx h1 h2
def KP (M M1 : MM) : Prop := ∀ G, G ≠ 6 → G ≠ 35 → ¬(1 ≤ G ∧ G < 5) → ¬(41 ≤ G ∧ G < 45) → M1 G = M G
theorem KP.FC {M M1 : MM} (h : KP M M1) : FC M M1 := fun G g1 g2 => h G (by omega) (by omega) (by omega) (by omega)
theorem c_keep' {M : MM} {k : Int} {a : Nat → Int} {n : Nat} {H : Nat → Nat → Int} {L : Nat} {t : Nat → Int} (vc : VC M a n H L t) (B : VB k a n H L t) : ∃ M1, f_X3_keep M 0 = some ((), M1) ∧ VC M1 a (pN n) (pH n H a) L t ∧ KP M M1 := c_keep vc B
theorem OPC.go {o : Option (Int32 × MM)} {M M1 M2 : MM} {r : Int32} {a a' : Nat → Int} {n : Nat} {H : Nat → Nat → Int} {L : Nat} {t : Nat → Int} (v1 : VC M1 a n H L t) (f1 : FC M M1) (e : o = some (r, M2)) (w : CW M1 M2 a') : OPC o M r a' n H L t := ⟨M2, e, v1.step w, fun G g1 g2 => (w.FC G g1 g2).trans (f1 G g1 g2)⟩
theorem CW.up {M M1 : MM} {a1 a2 : Nat → Int} (h : CW M M1 a1) {q : Nat} {x : Int32} (r : RA (upd (M1 0) q x) (M1 40) (M1 50) a2) : CW M (up2 M1 0 q x) a2 := by
  refine ⟨?_, fun G g1 g2 g3 g4 g5 => ?_⟩
  · rw [up2_gr, up2_gn (by omega), up2_gn (by omega)]; exact r
  · rw [up2_gn g1]; exact h.2 G g1 g2 g3 g4 g5
theorem CW.refl {M : MM} {a : Nat → Int} (h : RA (M 0) (M 40) (M 50) a) : CW M M a := ⟨h, fun _ _ _ _ _ _ => rfl⟩
theorem Bd.lo {k k' : Int} {a a' : Nat → Int} (h : Bd k a) (hk : k ≤ k') (hm : BM a') (e : ∀ q, 8 ≤ q → a' q = a q) : Bd k' a' := by
  obtain ⟨h1, h2, h3, h4, h5, h6, h7⟩ := h.mono hk
  refine ⟨hm, ?_, fun i hi => ?_, fun b hb => ?_, fun o ho => ?_, ?_, ?_⟩
  · unfold BS at h2 ⊢
    rw [e 45 (by omega), e 46 (by omega), e 47 (by omega), e 48 (by omega), e 49 (by omega), e 50 (by omega), e 51 (by omega)]
    exact h2
  · have := h3 i hi
    unfold BL at this ⊢
    rw [e (9 + 3 * i) (by omega), e (10 + 3 * i) (by omega), e (11 + 3 * i) (by omega)]
    exact this
  · rw [e 52 (by omega)] at hb
    have := h4 b hb
    unfold BB at this ⊢
    rw [e (54 + 8 * b) (by omega), e (55 + 8 * b) (by omega), e (56 + 8 * b) (by omega), e (57 + 8 * b) (by omega), e (58 + 8 * b) (by omega), e (59 + 8 * b) (by omega), e (60 + 8 * b) (by omega), e (61 + 8 * b) (by omega)]
    exact this
  · rw [e 53 (by omega)] at ho
    have := h5 o ho
    unfold BO at this ⊢
    rw [e (854 + 4 * o) (by omega), e (855 + 4 * o) (by omega), e (856 + 4 * o) (by omega), e (857 + 4 * o) (by omega)]
    exact this
  · unfold hereN at h6 ⊢
    rw [e 52 (by omega), cn_congr (Q := hereP a) (fun i hi => by unfold hereP; rw [e _ (by omega)])]
    exact h6
  · unfold openN at h7 ⊢
    rw [e 53 (by omega), cn_congr (Q := openP a) (fun i hi => by unfold openP; rw [e _ (by omega)])]
    exact h7
theorem c_put0 {M : MM} {a : Nat → Int} (R : RA (M 0) (M 40) (M 50) a) {q : Nat} (hq : q < 8) (y : Int) : ∃ M1, f_X6_put M 0 q 0 (iI y) = some ((), M1) ∧ CW M M1 (uI a q (a q + y)) := by
  refine ⟨up2 M 0 q (iI (a q + y)), by rw [e_put0, R.lo (by omega), iI_add], (CW.refl R).up (R.u_same _ (by omega))⟩
theorem c_put1 {M : MM} {a : Nat → Int} (R : RA (M 0) (M 40) (M 50) a) {q : Nat} (hq : q + 1 < 8) (y : Int) : ∃ M1, f_X6_put M 0 q 1 (iI y) = some ((), M1) ∧ CW M M1 (uI a (q + 1) (a (q + 1) + y)) := by
  refine ⟨up2 M 0 (q + 1) (iI (a (q + 1) + y)), by rw [e_put1, R.lo (by omega), iI_add], (CW.refl R).up (R.u_same _ (by omega))⟩
theorem bellAt_none {M : MM} {a : Nat → Int} (R : RA (M 0) (M 40) (M 50) a) (h0 : 0 ≤ a 52) {x : Int} (hx : B31 x) (h : ¬ (0 ≤ x ∧ x ≤ a 52 - 1)) : f_X9_bellAt M 0 (iI x) = some (none, M) := by
  have := R.cb
  unfold f_X9_bellAt
  rw [R.nb, Z1, iI_sub, e_inL 0 (a 52 - 1) hx Z0 rfl (by omega) (by omega), bnd2_s, ifn h]
theorem bellAt_some {M : MM} {a : Nat → Int} (R : RA (M 0) (M 40) (M 50) a) {j : Nat} (h : j < (a 52).toNat) : f_X9_bellAt M 0 (iI j) = some (some j, M) := by
  have := R.cb
  unfold f_X9_bellAt
  rw [R.nb, Z1, iI_sub, e_inL 0 (a 52 - 1) (by omega) Z0 rfl (by omega) (by omega), bnd2_s, ify (by omega), if_pos (vinI (by omega) (by omega)), iI_lo (by omega)]
theorem orderAt_none {M : MM} {a : Nat → Int} (R : RA (M 0) (M 40) (M 50) a) (h0 : 0 ≤ a 53) {x : Int} (hx : B31 x) (h : ¬ (0 ≤ x ∧ x ≤ a 53 - 1)) : f_X9_orderAt M 0 (iI x) = some (none, M) := by
  have := R.cb
  unfold f_X9_orderAt
  rw [R.no, Z1, iI_sub, e_inL 0 (a 53 - 1) hx Z0 rfl (by omega) (by omega), bnd2_s, ifn h]
theorem orderAt_some {M : MM} {a : Nat → Int} (R : RA (M 0) (M 40) (M 50) a) {j : Nat} (h : j < (a 53).toNat) : f_X9_orderAt M 0 (iI j) = some (some j, M) := by
  have := R.cb
  unfold f_X9_orderAt
  rw [R.no, Z1, iI_sub, e_inL 0 (a 53 - 1) (by omega) Z0 rfl (by omega) (by omega), bnd2_s, ify (by omega), if_pos (vinI (by omega) (by omega)), iI_lo (by omega)]
theorem lotAt_none {M : MM} {a : Nat → Int} (R : RA (M 0) (M 40) (M 50) a) (h0 : 0 ≤ a 8) {x : Int} (hx : B31 x) (h : ¬ (0 ≤ x ∧ x ≤ a 8 - 1)) : f_X2_at M 0 (iI x) = some (none, M) := by
  have := R.cb
  unfold f_X2_at
  rw [R.lo (q := 8) (by omega), Z1, iI_sub, e_inL 0 (a 8 - 1) hx Z0 rfl (by omega) (by omega), bnd2_s, ifn h]
theorem lotAt_some {M : MM} {a : Nat → Int} (R : RA (M 0) (M 40) (M 50) a) {j : Nat} (h : j < (a 8).toNat) : f_X2_at M 0 (iI j) = some (some (pm (M 50) j), M) := by
  have := R.cb
  have hp : (M 50 j).toNatClampNeg < 12 := R.1.1 j (by omega)
  have e : (iI (j : Int)).toNatClampNeg = j := iI_lo (by omega)
  unfold f_X2_at
  rw [R.lo (q := 8) (by omega), Z1, iI_sub, e_inL 0 (a 8 - 1) (by omega) Z0 rfl (by omega) (by omega), bnd2_s, ify (by omega), if_pos (vinI (by omega) (by omega))]
  simp only [e, Nat.add_zero, if_pos hp]
  rfl
theorem c_remains {M : MM} {a : Nat → Int} (R : RA (M 0) (M 40) (M 50) a) {j : Nat} (h : j < (a 52).toNat) (hs : 0 ≤ a (60 + 8 * j) ∧ a (60 + 8 * j) ≤ 3) : f_X0_remains M 0 j = some (dI (a (60 + 8 * j) < 2), M) := by
  unfold f_X0_remains
  rw [R.b6 h]
  by_cases c : a (60 + 8 * j) = 0
  · rw [if_pos (by rw [c]; rfl), dI_t (by omega)]
  · rw [if_neg (by rw [Z0, iI_inj (by omega) (by omega)]; exact c)]
    by_cases d : a (60 + 8 * j) = 1
    · rw [if_pos (by rw [d]; rfl), dI_t (by omega)]
    · rw [if_neg (by rw [Z1, iI_inj (by omega) (by omega)]; exact d), dI_f (by omega)]
theorem e_jabs {d : Int} (h : -2147483648 < d ∧ d < 2147483648) : jabs (iI d) = iI (if 0 ≤ d then d else -d) := by
  unfold jabs
  by_cases c : 0 ≤ d
  · rw [if_pos (by rw [Z0, iI_le (by omega) (by omega)]; exact c), if_pos c]
  · rw [if_neg (by rw [Z0, iI_le (by omega) (by omega)]; exact c), if_neg c, Z0, iI_sub]; congr 1; omega
theorem c_takesPitch {M : MM} {a : Nat → Int} (R : RA (M 0) (M 40) (M 50) a) {o : Nat} {p : Int} (h : o < (a 53).toNat) (hp : 0 ≤ p ∧ p ≤ 2000000) (ho : BO a o) : f_X7_takesPitch M 0 o (iI p) = some (dI (-(a (856 + 4 * o)) ≤ p - a (855 + 4 * o) ∧ p - a (855 + 4 * o) ≤ a (856 + 4 * o)), M) := by
  unfold BO at ho
  unfold f_X7_takesPitch
  rw [R.o1 h, R.o2 h, iI_sub, e_jabs (by omega)]
  by_cases c : a (856 + 4 * o) < (if 0 ≤ p - a (855 + 4 * o) then p - a (855 + 4 * o) else -(p - a (855 + 4 * o)))
  · rw [if_pos (by rw [iI_lt (by omega) (by split <;> omega)]; exact c), dI_f (by split at c <;> omega)]
  · rw [if_neg (by rw [iI_lt (by omega) (by split <;> omega)]; exact c), dI_t (by split at c <;> omega)]
theorem c_isFitBy {k : Int} {M : MM} {a : Nat → Int} (R : RA (M 0) (M 40) (M 50) a) {b o : Nat} (hb : b < (a 52).toNat) (ho : o < (a 53).toNat) (B : BB k a b) (O : BO a o) : f_X7_isFitBy M 0 o b = some (dI (fit a b o), M) := by
  obtain ⟨b1, b2, b3, b4, b5, b6, b7, b8, b9⟩ := B
  have O' := O
  unfold BO at O'
  unfold f_X7_isFitBy
  rw [R.b6 hb]
  by_cases c : a (60 + 8 * b) = 0
  · rw [if_pos (by rw [c]; rfl), R.b2 hb, R.o0 ho]
    by_cases d : a (56 + 8 * b) = a (854 + 4 * o)
    · rw [if_pos (by rw [d]), R.b3 hb, c_takesPitch R ho b3 O, bnd2_s]
      by_cases e : -(a (856 + 4 * o)) ≤ a (57 + 8 * b) - a (855 + 4 * o) ∧ a (57 + 8 * b) - a (855 + 4 * o) ≤ a (856 + 4 * o)
      · rw [ify e, dI_t (show fit a b o from ⟨c, d, e⟩)]
      · rw [ifn e, dI_f (fun q => e q.2.2)]
    · rw [if_neg (by rw [iI_inj (by omega) (by omega)]; exact d), dI_f (fun q => d q.2.1)]
  · rw [if_neg (by rw [Z0, iI_inj (by omega) (by omega)]; exact c), dI_f (fun q => c q.1)]
theorem c_cracksBy {k : Int} {M : MM} {a : Nat → Int} (R : RA (M 0) (M 40) (M 50) a) {j : Nat} {n : Int} (h : j < (a 52).toNat) (hk : k ≤ 1000) (B : BB k a j) (hn : 0 ≤ n) (hn2 : n ≤ 1000) : f_X0_cracksBy M 0 j (iI n) = some (dI (crk (a (59 + 8 * j)) n (a (56 + 8 * j)) (a (58 + 8 * j))), M) := by
  obtain ⟨b1, b2, b3, b4, b5, b6, b7, b8, b9⟩ := B
  unfold f_X0_cracksBy
  rw [R.b2 h, R.b5 h, R.b4 h, iI_add]
  by_cases c : a (56 + 8 * j) = 2
  · rw [if_pos (by rw [c]; rfl), Z20, iI_div (by omega) (by omega) (by omega) (by omega)]
    by_cases d : a (59 + 8 * j) + n ≤ a (58 + 8 * j) / 20
    · rw [if_pos (by rw [iI_le (by omega) (by omega)]; exact d), dI_f (by rw [crk, if_pos c]; omega)]
    · rw [if_neg (by rw [iI_le (by omega) (by omega)]; exact d), dI_t (by rw [crk, if_pos c]; omega)]
  · rw [if_neg (by rw [Z2, iI_inj (by omega) (by omega)]; exact c), Z10, iI_div (by omega) (by omega) (by omega) (by omega)]
    by_cases d : a (59 + 8 * j) + n ≤ a (58 + 8 * j) / 10
    · rw [if_pos (by rw [iI_le (by omega) (by omega)]; exact d), dI_f (by rw [crk, if_neg c]; omega)]
    · rw [if_neg (by rw [iI_le (by omega) (by omega)]; exact d), dI_t (by rw [crk, if_neg c]; omega)]
theorem e_jmax {x y : Int} (hx : B31 x) (hy : B31 y) : jmax (iI x) (iI y) = iI (if x < y then y else x) := by
  unfold jmax
  by_cases c : x < y
  · rw [if_pos (by rw [iI_lt hx hy]; exact c), if_pos c]
  · rw [if_neg (by rw [iI_lt hx hy]; exact c), if_neg c]
theorem e_jmin {x y : Int} (hx : B31 x) (hy : B31 y) : jmin (iI x) (iI y) = iI (if y < x then y else x) := by
  unfold jmin
  by_cases c : y < x
  · rw [if_pos (by rw [iI_lt hy hx]; exact c), if_pos c]
  · rw [if_neg (by rw [iI_lt hy hx]; exact c), if_neg c]
theorem c_pitchBehind {k : Int} {M : MM} {a : Nat → Int} (R : RA (M 0) (M 40) (M 50) a) {j : Nat} {n : Int} (h : j < (a 52).toNat) (B : BB k a j) (hs : BS a) (hn : 0 ≤ n) (hn2 : n ≤ 1000) (hw : 0 < a (54 + 8 * j) + a (55 + 8 * j)) : f_X0_pitchBehind M 0 j (iI n) (iI (a 50)) = some (iI (low (a (57 + 8 * j)) (a 50) n (a (54 + 8 * j) + a (55 + 8 * j))), M) := by
  obtain ⟨b1, b2, b3, b4, b5, b6, b7, b8, b9⟩ := B
  unfold BS at hs
  have h1 : 0 ≤ a 50 * 1000 * n := Int.mul_nonneg (by omega) hn
  have h2 : a 50 * 1000 * n ≤ 50000 * n := Int.mul_le_mul_of_nonneg_right (by omega) hn
  have h3 : 0 ≤ a 50 * 1000 * n / (a (54 + 8 * j) + a (55 + 8 * j)) := Int.ediv_nonneg h1 (by omega)
  have h4 : a 50 * 1000 * n / (a (54 + 8 * j) + a (55 + 8 * j)) ≤ a 50 * 1000 * n := Int.ediv_le_self _ h1
  unfold f_X0_pitchBehind low
  have hm : jmax 1 (iI (a (54 + 8 * j) + a (55 + 8 * j))) = iI (a (54 + 8 * j) + a (55 + 8 * j)) := by
    rw [Z1, e_jmax (by omega) (by omega)]; congr 1; split <;> omega
  rw [e_weight, bnd2_s, R.b0 h, R.b1 h, iI_add, hm, if_neg (by rw [Z0, iI_inj (by omega) (by omega)]; omega), R.b3 h, Z1000, iI_mul, iI_mul, iI_div h1 (by omega) hw (by omega), iI_sub, Z1, e_jmax (by omega) (by omega)]
  refine congrArg (fun z => some (iI z, M)) ?_
  by_cases c : a (57 + 8 * j) - a 50 * 1000 * n / (a (54 + 8 * j) + a (55 + 8 * j)) < 1
  · rw [if_pos c, if_neg (by omega)]
  · rw [if_neg c]; split <;> omega

