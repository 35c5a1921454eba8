/-! THE LAW'S METHODS: areLoads. -/
def WF (a : Nat → Int) (F : Nat → Int32) (z : Nat) : Prop := ∀ i, i < cn (hereP a) z → ∃ b, b < z ∧ a (60 + 8 * b) < 2 ∧ cn (hereP a) b = i ∧ F i = iI (b : Int)
theorem WF.skip {a : Nat → Int} {F : Nat → Int32} {z : Nat} (h : WF a F z) (c : ¬ a (60 + 8 * z) < 2) : WF a F (z + 1) := fun i hi => by
  rw [here_f c] at hi
  obtain ⟨b, h1, h2, h3, h4⟩ := h i hi
  exact ⟨b, by omega, h2, h3, h4⟩
theorem WF.add {a : Nat → Int} {F : Nat → Int32} {z : Nat} (h : WF a F z) (c : a (60 + 8 * z) < 2) : WF a (upd F (cn (hereP a) z) (iI (z : Int))) (z + 1) := fun i hi => by
  rw [here_t c] at hi
  by_cases e : i = cn (hereP a) z
  · exact ⟨z, by omega, c, e.symm, by rw [e, upd_s]⟩
  · obtain ⟨b, h1, h2, h3, h4⟩ := h i (by omega)
    exact ⟨b, by omega, h2, h3, by rw [upd_n e]; exact h4⟩
theorem wsz_z {a : Nat → Int} : ∀ z : Nat, cn (hereP a) z ≤ 12 → wsz a (iI ((0 : Nat) : Int)) z = 0 := by
  intro z
  induction z with
  | zero => intro _; rfl
  | succ z ih =>
    intro h
    have hm := cn_mono (hereP a) (show z ≤ z + 1 by omega)
    rw [wsz, if_neg (fun q => by
      have := (bt_tb (n := 0) (by omega) (by omega)).mp q.2
      unfold tb at this
      rw [Nat.zero_div] at this
      omega)]
    exact ih (by omega)
theorem wwt_p {k : Int} {a : Nat → Int} {x : Int32} {nb : Nat} (hb : ∀ b, b < nb → BB k a b) : ∀ z, z ≤ nb → ∀ i, i < wsz a x z → 1 ≤ wwt a x z i := by
  intro z
  induction z with
  | zero => intro _ i hi; exact absurd hi (Nat.not_lt_zero i)
  | succ z ih =>
    intro hz i hi
    unfold wsz at hi
    unfold wwt
    by_cases c : slP a x z
    · rw [if_pos c] at hi ⊢
      by_cases e : i = wsz a x z
      · rw [e, uI_s]
        have B := (hb z (by omega)).2.2.2.2.2.2.1
        have c1 := c.1
        exact B (by omega)
      · rw [uI_n e]; exact ih (by omega) i (by omega)
    · rw [if_neg c] at hi ⊢; exact ih (by omega) i hi
section GLD
variable {k : Int} {M : MM} {a : Nat → Int} {n : Nat} {H : Nat → Nat → Int} {L : Nat} {t : Nat → Int}
theorem l_d57 (vc : VC M a n H L t) (vb : VB k a n H L t) {s : Nat} (hs : s < 2 ^ hereN a) : ∀ (j fu z : Nat) (F : Nat → Int32), z + j = (a 52).toNat → j < fu → WF a F z → ∃ F' M1, WF a F' (a 52).toNat ∧ VC M1 a n H L t ∧ lp_L_areLoads_57 fu M F (iI (hereN a)) (iI (s : Int)) (iI (a 51)) (iI (sm (wwt a (iI s) z) (wsz a (iI s) z))) (iI (wsz a (iI s) z)) (iI (cn (hereP a) z)) (iI (wlt a (iI s) z)) (iI (cn (hereP a) z)) (iI z) = lp_L_areLoads_225 FU M1 F' (iI (hereN a)) (iI (hereN a)) := by
  have hM := vb.1.1
  unfold BM at hM
  have hS := vb.1.2.1
  unfold BS at hS
  have hN := vb.1.2.2.2.2.2.1
  have hB := vb.1.2.2.2.1
  have hp12 := p2_le hN
  have e12 : (2 : Nat) ^ 12 = 4096 := rfl
  have e31 : (2 : Nat) ^ 31 = 2147483648 := rfl
  have no : ¬ (1 : Int32) = 0 := by decide
  have rr : (if (1 : Int32) = 0 then (0 : Int32) else 1) = 1 := rfl
  intro j
  induction j with
  | zero =>
    intro fu z F hz hf hF
    obtain ⟨f, rfl⟩ : ∃ f, fu = f + 1 := ⟨fu - 1, by omega⟩
    obtain rfl : z = (a 52).toNat := by omega
    obtain ⟨M1, e1, v1⟩ := q_wagons vc vb hs
    refine ⟨F, M1, hF, v1, ?_⟩
    have hsz := wsz_le a (iI (s : Int)) (a 52).toNat
    have hN' : cn (hereP a) (a 52).toNat = hereN a := rfl
    unfold lp_L_areLoads_57
    rw [qc1 vc vb, bnd2_s, if_pos (by rw [iI_le (by omega) (by omega)]; omega), e1, bnd2_s]
    rcases wlt_01 a (iI (s : Int)) (a 52).toNat with c | c
    · rw [c, if_pos (show iI 0 = (0 : Int32) from rfl), if_pos (show (0 : Int) = 0 from rfl), if_pos rfl]
      rfl
    · have hall := (wlt_all a (iI (s : Int)) (a 52).toNat).mp c
      have hwb := wwt_b (x := iI (s : Int)) hB (a 52).toNat (Nat.le_refl _)
      have hwp := wwt_p (x := iI (s : Int)) hB (a 52).toNat (Nat.le_refl _)
      have hW : ∀ i, i < wsz a (iI (s : Int)) (a 52).toNat → 0 ≤ wwt a (iI (s : Int)) (a 52).toNat i ∧ wwt a (iI (s : Int)) (a 52).toNat i ≤ a 51 := fun i hi => ⟨(hwb i hi).1, hall i hi⟩
      have td := told_b (by omega) (show 0 < a 51 by omega) (by omega) hW
      have sb := sm_b (f := wwt a (iI (s : Int)) (a 52).toNat) (x := 0) (y := wsz a (iI (s : Int)) (a 52).toNat) (by omega) (fun i _ hi => hwb i hi)
      rw [show sm (wwt a (iI (s : Int)) (a 52).toNat) 0 = 0 from rfl] at sb
      have hz1 : s ≠ 0 → 1 ≤ sm (wwt a (iI (s : Int)) (a 52).toNat) (wsz a (iI (s : Int)) (a 52).toNat) := fun hs0 => by
        have hne : wsz a (iI (s : Int)) (a 52).toNat ≠ 0 := fun q => by
          have h := wsz_0 (a := a) (X := s) (by omega) (a 52).toNat (by omega) q
          rw [hN', Nat.mod_eq_of_lt hs] at h
          exact hs0 h
        obtain ⟨m, hm⟩ : ∃ m, wsz a (iI (s : Int)) (a 52).toNat = m + 1 := ⟨wsz a (iI (s : Int)) (a 52).toNat - 1, by omega⟩
        rw [hm] at hwp hwb ⊢
        rw [sm_s]
        have h1 := sm_nn (f := wwt a (iI (s : Int)) (a 52).toNat) m (fun i hi => (hwb i (by omega)).1)
        have h2 := hwp m (by omega)
        omega
      have hz0 : s = 0 → wsz a (iI (s : Int)) (a 52).toNat = 0 := fun hs0 => by rw [hs0]; exact wsz_z _ (by omega)
      obtain ⟨T, hT⟩ : ∃ T, T = Btb (wwt a (iI (s : Int)) (a 52).toNat) (a 51) (wsz a (iI (s : Int)) (a 52).toNat) (2 ^ wsz a (iI (s : Int)) (a 52).toNat - 1) (2 ^ wsz a (iI (s : Int)) (a 52).toNat - 1) / 32768 := ⟨_, rfl⟩
      obtain ⟨S, hSm⟩ : ∃ S, S = sm (wwt a (iI (s : Int)) (a 52).toNat) (wsz a (iI (s : Int)) (a 52).toNat) := ⟨_, rfl⟩
      obtain ⟨N, hNn⟩ : ∃ N, N = wsz a (iI (s : Int)) (a 52).toNat := ⟨_, rfl⟩
      rw [← hT, ← hSm] at td
      rw [← hSm] at sb hz1
      rw [← hNn] at td sb hz0 hsz
      have hT1 : s ≠ 0 → 1 ≤ T := fun hs0 => by
        have h := Int.le_ediv_of_mul_le (show 0 < a 51 by omega) (show 1 * a 51 ≤ S + a 51 - 1 by have := hz1 hs0; omega)
        omega
      have eq : (if iI (s : Int) = (0 : Int32) then (1 : Int32) else 0) = (if iI T = (0 : Int32) then (1 : Int32) else 0) := by
        by_cases hs0 : s = 0
        · have := hz0 hs0
          rw [if_pos (by rw [hs0]; rfl), if_pos (by rw [show T = 0 by omega]; rfl)]
        · have := hT1 hs0
          rw [if_neg (by rw [Z0, iI_inj (by omega) (by omega)]; omega), if_neg (by rw [Z0, iI_inj (by omega) (by omega)]; omega)]
      have hdv : (S + a 51 - 1) / a 51 ≤ S + a 51 - 1 := Int.ediv_le_self _ (by omega)
      have hdv0 : 0 ≤ (S + a 51 - 1) / a 51 := Int.ediv_nonneg (by omega) (by omega)
      rw [c, if_neg (by decide), if_neg (show ¬ (1 : Int) = 0 by omega), ← hT, ← hSm, ← hNn, if_neg (by rw [Z0, iI_inj (by omega) (by omega)]; omega), iI_add, Z1, iI_sub, iI_div (by omega) (by omega) (by omega) (by omega), if_neg (by rw [iI_lt (by omega) (by omega)]; omega), if_neg (by rw [iI_lt (by omega) (by omega)]; omega), ← Z1, if_pos eq]
      rfl
  | succ j ih =>
    intro fu z F hz hf hF
    obtain ⟨f, rfl⟩ : ∃ f, fu = f + 1 := ⟨fu - 1, by omega⟩
    have hb : z < (a 52).toNat := by omega
    obtain ⟨b1, b2, b3, b4, b5, b6, b7, b8, b9⟩ := hB z hb
    have hcn := cn_mono (hereP a) (show z + 1 ≤ (a 52).toNat by omega)
    have hcn' : cn (hereP a) (z + 1) ≤ 12 := Nat.le_trans hcn hN
    unfold lp_L_areLoads_57
    rw [qc1 vc vb, bnd2_s, if_neg (by rw [iI_le (by omega) (by omega)]; omega), qb8 vc vb hb, bnd2_s]
    by_cases c : a (60 + 8 * z) < 2
    · have ih1 := ih f (z + 1) _ (by omega) (by omega) (hF.add c)
      have ht := here_t c
      rw [ht] at ih1 hcn'
      have tm : (iI (cn (hereP a) z : Int)).toNatClampNeg = cn (hereP a) z := iI_lo (by omega)
      have vm : vin (iI (cn (hereP a) z : Int)) 12 := vinI (by omega) (by omega)
      rw [if_neg (by rw [Z2, iI_le (by omega) (by omega)]; omega)]
      by_cases d : bt (iI (s : Int)) (cn (hereP a) z)
      · have hsl : slP a (iI (s : Int)) z := ⟨c, d⟩
        have w1 : wsz a (iI (s : Int)) (z + 1) = wsz a (iI (s : Int)) z + 1 := by rw [wsz, if_pos hsl]
        have w2 : wwt a (iI (s : Int)) (z + 1) = uI (wwt a (iI (s : Int)) z) (wsz a (iI (s : Int)) z) (wgt a z) := by rw [wwt, if_pos hsl]
        have w3 : wlt a (iI (s : Int)) (z + 1) = if wlt a (iI (s : Int)) z = 0 then 0 else if a 51 < wgt a z then 0 else 1 := by rw [wlt, if_pos hsl]
        have w4 : sm (wwt a (iI (s : Int)) (z + 1)) (wsz a (iI (s : Int)) z + 1) = sm (wwt a (iI (s : Int)) z) (wsz a (iI (s : Int)) z) + (a (54 + 8 * z) + a (55 + 8 * z)) := by
          rw [sm_s, w2, uI_s, sm_cg (g := wwt a (iI (s : Int)) z) _ (fun i hi => uI_n (by omega))]
        rw [w1, w4, w3] at ih1
        rw [if_pos d, qb2 vc vb hb (by omega), bnd2_s]
        rcases wlt_01 a (iI (s : Int)) z with e | e
        · rw [e, if_pos rfl] at ih1
          rw [e, if_pos (show iI 0 = (0 : Int32) from rfl), if_pos vm, tm, iI_add, iI_1, iI_1, iI_1]
          exact ih1
        · rw [e, if_neg (by omega)] at ih1
          rw [e, if_neg (by decide), qb2 vc vb hb (by omega), bnd2_s]
          by_cases g : a 51 < wgt a z
          · rw [if_pos g] at ih1
            rw [if_pos (by rw [iI_lt (by omega) (by omega)]; exact g), if_pos vm, tm, iI_add, iI_1, iI_1, iI_1]
            exact ih1
          · rw [if_neg g] at ih1
            rw [if_neg (by rw [iI_lt (by omega) (by omega)]; exact g), if_pos vm, tm, iI_add, iI_1, iI_1, iI_1]
            exact ih1
      · have hsl : ¬ slP a (iI (s : Int)) z := fun q => d q.2
        have w1 : wsz a (iI (s : Int)) (z + 1) = wsz a (iI (s : Int)) z := by rw [wsz, if_neg hsl]
        have w2 : wwt a (iI (s : Int)) (z + 1) = wwt a (iI (s : Int)) z := by rw [wwt, if_neg hsl]
        have w3 : wlt a (iI (s : Int)) (z + 1) = wlt a (iI (s : Int)) z := by rw [wlt, if_neg hsl]
        rw [w1, w2, w3] at ih1
        rw [if_neg d, if_pos vm, tm, iI_1, iI_1]
        exact ih1
    · have ih1 := ih f (z + 1) _ (by omega) (by omega) (hF.skip c)
      have hsl : ¬ slP a (iI (s : Int)) z := fun q => c q.1
      have w1 : wsz a (iI (s : Int)) (z + 1) = wsz a (iI (s : Int)) z := by rw [wsz, if_neg hsl]
      have w2 : wwt a (iI (s : Int)) (z + 1) = wwt a (iI (s : Int)) z := by rw [wwt, if_neg hsl]
      have w3 : wlt a (iI (s : Int)) (z + 1) = wlt a (iI (s : Int)) z := by rw [wlt, if_neg hsl]
      rw [w1, w2, w3, here_f c] at ih1
      rw [if_pos (by rw [Z2, iI_le (by omega) (by omega)]; omega), iI_1]
      exact ih1
theorem s_clear (vc : VC M a n H L t) (vb : VB k a n H L t) : ∃ M1, f_X10_clearText M = some (iI (L : Int), M1) ∧ VC M1 a n H 0 t ∧ VB k a n H 0 t := by
  refine ⟨up2 M 5 0 0, ?_, vc.txt (fun G g1 g2 => up2_gn g1) (up2_eq _ _ _ _) (fun i hi => by omega), ⟨vb.1, vb.2.1, vb.2.2.1, by omega, fun i hi => by omega⟩⟩
  unfold f_X10_clearText; rw [letB_e, vc.2.2.1]
theorem s_type (vc : VC M a n H L t) (vb : VB k a n H L t) (h60 : L < 60) {X : Int} (hx : 32 ≤ X ∧ X ≤ 126) : ∃ M1, f_X10_type M (iI X) = some (iI ((L + 1 : Nat) : Int), M1) ∧ VC M1 a n H (L + 1) (uI t L X) ∧ VB k a n H (L + 1) (uI t L X) := by
  obtain ⟨hL, ht⟩ := vb.2.2.2
  have c1 := e_inL (M := M) (x := X) 32 126 (by omega) Z32 Z126 (by omega) (by omega)
  have hn : vp_nar .char (((iI X).toUInt32 % 65536).toInt32) = iI X := by
    have h := nar_ch X.toNat (by omega)
    have e : Int32.ofNat X.toNat = iI X := by rw [iI_N (by omega)]; rfl
    rw [e] at h; exact h
  have tL : (iI (L : Int)).toNatClampNeg = L := iI_lo (by omega)
  have vL : vin (iI (L : Int)) 60 := vinI (by omega) (by omega)
  refine ⟨up2 (up2 M 14 L (iI X)) 5 0 (iI (L + 1 : Nat)), ?_, ?_, ⟨vb.1, vb.2.1, vb.2.2.1, by omega, fun i hi => ?_⟩⟩
  · unfold f_X10_type
    rw [c1, bnd2_s, ify hx, if_pos (by rw [vc.2.2.1, Z60, iI_lt (by omega) (by omega)]; omega)]
    simp only [vc.2.2.1, if_pos vL, tL, hn, letB_e, up2_gn (show 5 ≠ 14 by omega), Z1, iI_add, up2_eq]
    rfl
  · refine vc.txt (fun G g1 g2 => by rw [up2_gn g1, up2_gn g2]) (up2_eq _ _ _ _) (fun i hi => ?_)
    rw [up2_gn (by omega), up2_gr]
    by_cases e : i = L
    · subst e; rw [upd_s, uI_s]
    · rw [upd_n e, uI_n e]; exact vc.2.2.2 i (by omega)
  · by_cases e : i = L
    · subst e; rw [uI_s]; exact hx
    · rw [uI_n e]; exact ht i (by omega)
theorem g_number (vc : VC M a n H L t) (vb : VB k a n H L t) (h60 : L + 2 ≤ 60) {x : Nat} (hx : x ≤ 99) : ∃ M1 w t', f_L_number M (iI (x : Int)) = some (1, M1) ∧ VC M1 a n H (L + w) t' ∧ VB k a n H (L + w) t' ∧ NUM t' L w x ∧ w ≤ 2 ∧ ∀ i, i < L → t' i = t i := by
  have d := dv10 (z := x) (by omega)
  have z48 : (48 : Int32) = iI 48 := rfl
  unfold f_L_number
  rw [d.2, d.1]
  by_cases c : x < 10
  · obtain ⟨M1, e1, v1, b1⟩ := s_type vc vb (X := 48 + ((x % 10 : Nat) : Int)) (by omega) (by omega)
    refine ⟨M1, 1, _, ?_, v1, b1, Or.inl ⟨rfl, c, by rw [uI_s, Nat.mod_eq_of_lt c]⟩, by omega, fun i hi => uI_n (by omega)⟩
    rw [if_pos (by rw [Z10, iI_lt (by omega) (by omega)]; omega), z48, iI_add, e1, bnd2_s, if_neg (by rw [Z0, iI_le (by omega) (by omega)]; omega)]
  · obtain ⟨M1, e1, v1, b1⟩ := s_type vc vb (X := 48 + ((x / 10 : Nat) : Int)) (by omega) (by omega)
    obtain ⟨M2, e2, v2, b2⟩ := s_type v1 b1 (X := 48 + ((x % 10 : Nat) : Int)) (by omega) (by omega)
    refine ⟨M2, 2, _, ?_, v2, b2, Or.inr ⟨rfl, by omega, by omega, by rw [uI_n (by omega), uI_s], by rw [uI_s]⟩, by omega, fun i hi => by rw [uI_n (by omega), uI_n (by omega)]⟩
    rw [if_neg (by rw [Z10, iI_lt (by omega) (by omega)]; omega), z48, iI_add, e1, bnd2_s, if_neg (by rw [Z0, iI_le (by omega) (by omega)]; omega), iI_add, e2, bnd2_s, if_neg (by rw [Z0, iI_le (by omega) (by omega)]; omega)]
theorem l_d225 (vc : VC M a n H L t) (vb : VB k a n H L t) {F : Nat → Int32} (hF : WF a F (a 52).toNat) : ∀ fu, 0 < fu → ∃ M1 L' t', lp_L_areLoads_225 fu M F (iI (hereN a)) (iI (hereN a)) = some (1, M1) ∧ VC M1 a n H L' t' ∧ VB k a n H L' t' := by
  intro fu hf
  obtain ⟨f, rfl⟩ : ∃ f, fu = f + 1 := ⟨fu - 1, by omega⟩
  have hM := vb.1.1
  unfold BM at hM
  have hB := vb.1.2.2.2.1
  have hN := vb.1.2.2.2.2.2.1
  have hp12 := p2_le hN
  have e12 : (2 : Nat) ^ 12 = 4096 := rfl
  have no : ¬ (1 : Int32) = 0 := by decide
  unfold lp_L_areLoads_225
  rw [if_neg no, shl_1 _ (by omega), q_wagons_no vc vb (Nat.le_refl _) (by omega), bnd2_s, if_pos rfl]
  by_cases c3 : hereN a < 3
  · exact ⟨M, L, t, by rw [if_pos (by rw [Z3, iI_lt (by omega) (by omega)]; omega)], vc, vb⟩
  have hN' : cn (hereP a) (a 52).toNat = hereN a := rfl
  obtain ⟨x, x1, x2, x3, x4⟩ := hF 0 (by omega)
  obtain ⟨y, y1, y2, y3, y4⟩ := hF 1 (by omega)
  obtain ⟨z, z1, z2, z3, z4⟩ := hF 2 (by omega)
  have hx : hrB a x := ⟨x1, x2⟩
  have hy : hrB a y := ⟨y1, y2⟩
  have hz : hrB a z := ⟨z1, z2⟩
  have n1 : x ≠ y := fun q => by rw [q] at x3; omega
  have n2 : x ≠ z := fun q => by rw [q] at x3; omega
  have n3 : y ≠ z := fun q => by rw [q] at y3; omega
  have F0 : F (0 : Int32).toNatClampNeg = iI (x : Int) := x4
  have F1 : F (1 : Int32).toNatClampNeg = iI (y : Int) := y4
  have F2 : F (2 : Int32).toNatClampNeg = iI (z : Int) := z4
  have z40 : (40 : Int32) = iI 40 := rfl
  have z41 : (41 : Int32) = iI 41 := rfl
  have z44 : (44 : Int32) = iI 44 := rfl
  have pos : ∀ q : Nat, q < 100 → ¬ iI ((q + 1 : Nat) : Int) ≤ 0 := fun q hq => by rw [Z0, iI_le (by omega) (by omega)]; omega
  obtain ⟨Ma, ea, va, ba⟩ := s_clear vc vb
  obtain ⟨Mb, eb, vb', bb⟩ := s_type va ba (X := 40) (by omega) (by omega)
  obtain ⟨Mc, ec, vc', bc⟩ := s_type vb' bb (X := 40) (by omega) (by omega)
  obtain ⟨Md, w1, td, ed, vd, bd, nd, wd, od⟩ := g_number vc' bc (by omega) (show x ≤ 99 by omega)
  obtain ⟨Me, ee, ve, be⟩ := s_type vd bd (X := 44) (by omega) (by omega)
  have w1' := nd.w
  have T1 : TA (uI td (0 + 1 + 1 + w1) 44) w1 x := by
    refine ⟨?_, ?_, ?_, ?_⟩
    · rw [uI_n (by omega), od 0 (by omega), uI_n (by omega), uI_s]
    · rw [uI_n (by omega), od 1 (by omega), uI_s]
    · exact nd.cg (fun i _ hi => uI_n (by omega))
    · rw [show 2 + w1 = 0 + 1 + 1 + w1 by omega, uI_s]
  obtain ⟨Mf, ef, vf⟩ := q_fA be ve T1 (by omega) hx
  obtain ⟨Mg, w2, tg, eg, vg, bg, ng, wg, og⟩ := g_number vf be (by omega) (show y ≤ 99 by omega)
  obtain ⟨Mh, eh, vh, bh⟩ := s_type vg bg (X := 41) (by omega) (by omega)
  obtain ⟨Mi, ei, vi, bi⟩ := s_type vh bh (X := 44) (by omega) (by omega)
  obtain ⟨Mj, w3, tj, ej, vj, bj, nj, wj, oj⟩ := g_number vi bi (by omega) (show z ≤ 99 by omega)
  obtain ⟨Mk, ek, vk, bk⟩ := s_type vj bj (X := 41) (by omega) (by omega)
  have w2' := ng.w
  have w3' := nj.w
  have lo : ∀ i, i < 0 + 1 + 1 + w1 + 1 → uI tj (0 + 1 + 1 + w1 + 1 + w2 + 1 + 1 + w3) 41 i = uI td (0 + 1 + 1 + w1) 44 i := fun i hi => by
    rw [uI_n (by omega), oj i (by omega), uI_n (by omega), uI_n (by omega), og i (by omega)]
  have T2 : TB (uI tj (0 + 1 + 1 + w1 + 1 + w2 + 1 + 1 + w3) 41) w1 w2 w3 x y z := by
    refine ⟨⟨?_, ?_, ?_, ?_⟩, ?_, ?_, ?_, ?_, ?_⟩
    · rw [lo 0 (by omega)]; exact T1.1
    · rw [lo 1 (by omega)]; exact T1.2.1
    · exact T1.2.2.1.cg (fun i _ hi => lo i (by omega))
    · rw [lo _ (by omega)]; exact T1.2.2.2
    · rw [show 3 + w1 = 0 + 1 + 1 + w1 + 1 by omega]
      exact ng.cg (fun i _ hi => by rw [uI_n (by omega), oj i (by omega), uI_n (by omega), uI_n (by omega)])
    · rw [uI_n (by omega), oj _ (by omega), uI_n (by omega), show 3 + w1 + w2 = 0 + 1 + 1 + w1 + 1 + w2 by omega, uI_s]
    · rw [uI_n (by omega), oj _ (by omega), show 4 + w1 + w2 = 0 + 1 + 1 + w1 + 1 + w2 + 1 by omega, uI_s]
    · rw [show 5 + w1 + w2 = 0 + 1 + 1 + w1 + 1 + w2 + 1 + 1 by omega]
      exact nj.cg (fun i _ hi => uI_n (by omega))
    · rw [show 5 + w1 + w2 + w3 = 0 + 1 + 1 + w1 + 1 + w2 + 1 + 1 + w3 by omega, uI_s]
  have rd : ∀ M, VC M a n H (0 + 1 + 1 + w1 + 1 + w2 + 1 + 1 + w3 + 1) (uI tj (0 + 1 + 1 + w1 + 1 + w2 + 1 + 1 + w3) 41) → _ := fun M v => q_f0 bk v T2 (by omega) hx hy hz n1 n2 n3
  obtain ⟨m1, u1, r1, -⟩ := rd Mk vk
  obtain ⟨m2, u2, -, r2, -⟩ := rd m1 u1
  obtain ⟨m3, u3, -, -, r3, -⟩ := rd m2 u2
  obtain ⟨m4, u4, -, -, -, r4, -⟩ := rd m3 u3
  obtain ⟨m5, u5, -, -, -, -, r5, -⟩ := rd m4 u4
  obtain ⟨m6, u6, -, -, -, -, -, r6, -⟩ := rd m5 u5
  obtain ⟨m7, u7, -, r7, -⟩ := rd m6 u6
  obtain ⟨m8, u8, -, -, -, -, -, -, V8, r8, p81, p82, p83, p84, p85⟩ := rd m7 u7
  obtain ⟨m9, u9, -, r9, -⟩ := rd m8 u8
  obtain ⟨mA, uA, -, -, -, -, -, -, VA, rA, pA1, pA2, pA3, pA4, pA5⟩ := rd m9 u9
  obtain ⟨mB, uB, -, rB, -⟩ := rd mA uA
  obtain ⟨mC, uC, -, -, -, -, -, -, VC', rC, pC1, pC2, pC3, pC4, pC5⟩ := rd mB uB
  obtain ⟨mD, rD, uD, bD⟩ := s_type uC bk (X := 44) (by omega) (by omega)
  have lo2 : ∀ i, i < 0 + 1 + 1 + w1 + 1 + w2 + 1 + 1 + w3 + 1 → uI (uI tj (0 + 1 + 1 + w1 + 1 + w2 + 1 + 1 + w3) 41) (0 + 1 + 1 + w1 + 1 + w2 + 1 + 1 + w3 + 1) 44 i = uI tj (0 + 1 + 1 + w1 + 1 + w2 + 1 + 1 + w3) 41 i := fun i hi => uI_n (by omega)
  have T3 : TB (uI (uI tj (0 + 1 + 1 + w1 + 1 + w2 + 1 + 1 + w3) 41) (0 + 1 + 1 + w1 + 1 + w2 + 1 + 1 + w3 + 1) 44) w1 w2 w3 x y z := by
    obtain ⟨⟨g1, g2, g3, g4⟩, g5, g6, g7, g8, g9⟩ := T2
    refine ⟨⟨?_, ?_, ?_, ?_⟩, ?_, ?_, ?_, ?_, ?_⟩
    · rw [lo2 0 (by omega)]; exact g1
    · rw [lo2 1 (by omega)]; exact g2
    · exact g3.cg (fun i _ hi => lo2 i (by omega))
    · rw [lo2 _ (by omega)]; exact g4
    · exact g5.cg (fun i _ hi => lo2 i (by omega))
    · rw [lo2 _ (by omega)]; exact g6
    · rw [lo2 _ (by omega)]; exact g7
    · exact g8.cg (fun i _ hi => lo2 i (by omega))
    · rw [lo2 _ (by omega)]; exact g9
  have h44 : uI (uI tj (0 + 1 + 1 + w1 + 1 + w2 + 1 + 1 + w3) 41) (0 + 1 + 1 + w1 + 1 + w2 + 1 + 1 + w3 + 1) 44 (6 + w1 + w2 + w3) = 44 := by
    rw [show 6 + w1 + w2 + w3 = 0 + 1 + 1 + w1 + 1 + w2 + 1 + 1 + w3 + 1 by omega, uI_s]
  obtain ⟨mE, rE, -, uE⟩ := q_fC bD uD T3 (by omega) h44 hx hy hz n1 n2 n3
  obtain ⟨mF, -, rF, uF⟩ := q_fC bD uE T3 (by omega) h44 hx hy hz n1 n2 n3
  obtain ⟨mG, rG, uG, bG⟩ := s_clear uF bD
  have wt : ∀ b, hrB a b → 0 ≤ wgt a b ∧ wgt a b ≤ 10000 := fun b h => by
    have B := hB b h.1
    unfold BB at B
    show 0 ≤ a (54 + 8 * b) + a (55 + 8 * b) ∧ a (54 + 8 * b) + a (55 + 8 * b) ≤ 10000
    omega
  have hwx := wt x hx
  have hwy := wt y hy
  have hwz := wt z hz
  obtain ⟨A, hA⟩ : ∃ A, A = wgt a x := ⟨_, rfl⟩
  obtain ⟨B, hBB⟩ : ∃ B, B = wgt a y := ⟨_, rfl⟩
  obtain ⟨C, hC⟩ : ∃ C, C = wgt a z := ⟨_, rfl⟩
  have kx : f_X10_bell Mk (iI (x : Int)) 2 = some (iI A, Mk) := by rw [hA]; exact qb2 vk bk hx.1 (by omega)
  have ky : f_X10_bell Mk (iI (y : Int)) 2 = some (iI B, Mk) := by rw [hBB]; exact qb2 vk bk hy.1 (by omega)
  have kz : f_X10_bell Mk (iI (z : Int)) 2 = some (iI C, Mk) := by rw [hC]; exact qb2 vk bk hz.1 (by omega)
  rw [← hA, ← hBB, ← hC] at r2 r6 r7 r8 r9 rA rB rC
  rw [← hA] at hwx p82 pA2 pC2
  rw [← hBB] at hwy p83 pA3 pC3
  rw [← hC] at hwz p84 pA4 pC4
  have s1 : (if iI A ≤ iI B then iI B - iI A else iI A - iI B) = iI (abI (A - B)) := by
    unfold abI
    by_cases q : A ≤ B
    · rw [if_pos (by rw [iI_le (by omega) (by omega)]; exact q), iI_sub]
      congr 1
      split <;> omega
    · rw [if_neg (by rw [iI_le (by omega) (by omega)]; exact q), iI_sub, if_pos (by omega)]
  have s2 : (if iI A + iI B ≤ iI C then iI C - iI A - iI B else iI A + iI B - iI C) = iI (abI (A + B - C)) := by
    unfold abI
    rw [iI_add]
    by_cases q : A + B ≤ C
    · rw [if_pos (by rw [iI_le (by omega) (by omega)]; exact q), iI_sub, iI_sub]
      congr 1
      split <;> omega
    · rw [if_neg (by rw [iI_le (by omega) (by omega)]; exact q), iI_sub, if_pos (by omega)]
  have ab1 : 0 ≤ abI (A - B) ∧ abI (A - B) ≤ 10000 := by unfold abI; split <;> omega
  have ab2 : 0 ≤ abI (A + B - C) ∧ abI (A + B - C) ≤ 20000 := by unfold abI; split <;> omega
  have s3 : (if iI (abI (A - B)) ≤ iI (abI (A + B - C)) then iI (abI (A + B - C)) else iI (abI (A - B))) = iI (mxI (abI (A - B)) (abI (A + B - C))) := by
    unfold mxI
    by_cases q : abI (A - B) < abI (A + B - C)
    · rw [if_pos (by rw [iI_le (by omega) (by omega)]; omega), if_pos q]
    · by_cases q2 : abI (A - B) = abI (A + B - C)
      · rw [if_pos (by rw [iI_le (by omega) (by omega)]; omega), if_neg q, q2]
      · rw [if_neg (by rw [iI_le (by omega) (by omega)]; omega), if_neg q]
  have s4 : (4 : Int32) * (if iI A ≤ iI B then iI B else iI A) = iI (4 * mxI A B) := by
    unfold mxI
    by_cases q : A < B
    · rw [if_pos (by rw [iI_le (by omega) (by omega)]; omega), if_pos q, Z4, iI_mul]
    · by_cases q2 : A = B
      · rw [if_pos (by rw [iI_le (by omega) (by omega)]; omega), if_neg q, q2, Z4, iI_mul]
      · rw [if_neg (by rw [iI_le (by omega) (by omega)]; omega), if_neg q, Z4, iI_mul]
  have mx : 0 ≤ mxI A B ∧ mxI A B ≤ 10000 ∧ 4 * mxI A B ≤ VC' := by unfold mxI; split <;> omega
  refine ⟨mG, 0, _, ?_, uG, bG⟩
  rw [if_neg (by rw [Z3, iI_lt (by omega) (by omega)]; omega), ea, bnd2_s, if_pos (by rw [Z0, iI_le (by omega) (by have := vb.2.2.2.1; omega)]; omega), if_neg no, z40, eb, bnd2_s, if_neg (pos 0 (by omega)), ec, bnd2_s, if_neg (pos 1 (by omega)), F0, ed, bnd2_s, if_neg no, z44, ee, bnd2_s, if_neg (pos _ (by omega)), ef, bnd2_s, if_pos rfl, F1, eg, bnd2_s, if_neg no, z41, eh, bnd2_s, if_neg (pos _ (by omega)), ei, bnd2_s, if_neg (pos _ (by omega)), F2, ej, bnd2_s, if_neg no, ek, bnd2_s, if_neg (pos _ (by omega)), kx, bnd2_s, ky, bnd2_s, kz, bnd2_s]
  simp only [letJ_e]
  rw [s1, s2, s3, s4, if_neg no, r1, bnd2_s, if_pos rfl, r2, bnd2_s, if_pos (by rw [iI_add, iI_add]), r3, bnd2_s, if_pos rfl, r4, bnd2_s, if_pos rfl, r5, bnd2_s, if_pos rfl, r6, bnd2_s, if_pos rfl, r7, bnd2_s, r8, bnd2_s, iI_add, show A + B + C + (V8 - (A + B + C)) = V8 by omega, Z4, iI_div (by omega) (by omega) (by omega) (by omega), iI_mul, iI_sub, if_pos (by rw [show V8 - V8 / 4 * 4 = 0 by omega]; rfl), r9, bnd2_s, rA, bnd2_s, iI_add, show A + B + C + (VA - (A + B + C)) = VA by omega, Z2, iI_mul, if_neg (by rw [iI_lt (by omega) (by omega)]; omega), rB, bnd2_s, rC, bnd2_s, iI_add, show A + B + C + (VC' - (A + B + C)) = VC' by omega, if_neg (by rw [iI_lt (by omega) (by omega)]; omega), if_neg no, rD, bnd2_s, if_neg (pos _ (by omega)), rE, bnd2_s, if_pos rfl, rF, bnd2_s, qc9 uF bD, bnd2_s, if_pos (by rw [Z1, iI_sub]; congr 1; omega), rG, bnd2_s, if_neg (pos _ (by omega))]
theorem g_areLoads (vc : VC M a n H L t) (vb : VB k a n H L t) (x : Int32) : ∃ M1 L' t', f_L_areLoads M x = some (1, M1) ∧ VC M1 a n H L' t' ∧ VB k a n H L' t' := by
  have hM := vb.1.1
  unfold BM at hM
  have hN := vb.1.2.2.2.2.2.1
  have hp12 := p2_le hN
  have e12 : (2 : Nat) ^ 12 = 4096 := rfl
  have fu0 : 0 < FU := by unfold FU; omega
  obtain ⟨m, hm, hm2⟩ : ∃ m : Nat, (if (6 : Int32) ≤ iI (hereN a : Int) then (6 : Int32) else iI (hereN a : Int)) = iI (m : Int) ∧ m ≤ hereN a := by
    by_cases c : 6 ≤ hereN a
    · exact ⟨6, by rw [if_pos (by rw [Z6, iI_le (by omega) (by omega)]; omega)]; rfl, c⟩
    · exact ⟨hereN a, by rw [if_neg (by rw [Z6, iI_le (by omega) (by omega)]; omega)], Nat.le_refl _⟩
  have hpm := p2_le hm2
  have hp := Nat.two_pow_pos m
  obtain ⟨s, hs, es⟩ := g_low (M := M) x (d := ((2 ^ m : Nat) : Int)) (by omega) (by omega)
  rw [Int.toNat_natCast] at hs
  obtain ⟨F, M1, hF, v1, e1⟩ := l_d57 vc vb (s := s) (by omega) (a 52).toNat FU 0 (fun _ => 0) (by omega) (by unfold FU; omega) (fun i hi => absurd hi (Nat.not_lt_zero i))
  obtain ⟨M2, L', t', e2, v2, b2⟩ := l_d225 v1 vb hF FU fu0
  refine ⟨M2, L', t', ?_, v2, b2⟩
  unfold f_L_areLoads
  rw [qc2 vc vb, bnd2_s, hm, shl_1 m (by omega), es, bnd2_s, qc26 vc vb, bnd2_s]
  exact e1.trans e2
end GLD
