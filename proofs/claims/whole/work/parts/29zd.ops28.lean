section
/-! The call wagons. -/
theorem VC.scr {M M1 : MM} {a : Nat → Int} {n : Nat} {H : Nat → Nat → Int} {L : Nat} {t : Nat → Int} (h : VC M a n H L t) (hF : ∀ G, (G < 7 ∨ G = 14 ∨ G = 35 ∨ (40 ≤ G ∧ G < 60)) → M1 G = M G) : VC M1 a n H L t := by
  obtain ⟨h1, ⟨g1, g2, g3, g4, g5, g6⟩, h3, h4⟩ := h
  refine ⟨?_, ⟨?_, g2, ?_, ?_, ?_, ?_⟩, ?_, ?_⟩
  · rw [hF 0 (by omega), hF 40 (by omega), hF 50 (by omega)]; exact h1
  · rw [hF 6 (by omega)]; exact g1
  · rw [hF 35 (by omega)]; exact g3
  · rw [hF 35 (by omega)]; exact g4
  · intro k hk; rw [hF _ (by omega)]; exact g5 k hk
  · intro i hi
    have := g3 i (by omega)
    rw [hF 35 (by omega), hF (pm (M 35) i) (by omega), hF (40 + pm (M 35) i) (by omega), hF (50 + pm (M 35) i) (by omega)]
    exact g6 i hi
  · rw [hF 5 (by omega)]; exact h3
  · rw [hF 14 (by omega)]; exact h4
theorem VR.scr {M M1 : MM} {a : Nat → Int} {n : Nat} {H : Nat → Nat → Int} {L : Nat} {t : Nat → Int} (h : VR M a n H L t) (hF : ∀ G, (G = 20 ∨ G = 21 ∨ G = 22 ∨ G = 27) → M1 G = M G) : VR M1 a n H L t := by
  obtain ⟨h1, h2, h3, h4, h5⟩ := h
  exact ⟨by rw [hF 21 (by omega)]; exact h1, by rw [hF 20 (by omega)]; exact h2, by rw [hF 22 (by omega)]; exact h3, by rw [hF 20 (by omega)]; exact h4, by rw [hF 27 (by omega)]; exact h5⟩
theorem wwt_b {k : Int} {a : Nat → Int} {x : Int32} {nb : Nat} (hb : ∀ b, b < nb → BB k a b) : ∀ z, z ≤ nb → ∀ i, i < wsz a x z → 0 ≤ wwt a x z i ∧ wwt a x z i ≤ 10000 := by
  intro z
  induction z with
  | zero => intro _ i hi; exact absurd hi (Nat.not_lt_zero i)
  | succ z ih =>
    intro hz i hi
    unfold wsz at hi
    unfold wwt
    have B := hb z (by omega)
    unfold BB at B
    by_cases c : slP a x z
    · rw [if_pos c] at hi ⊢
      by_cases e : i = wsz a x z
      · rw [e, uI_s]
        show 0 ≤ a (54 + 8 * z) + a (55 + 8 * z) ∧ a (54 + 8 * z) + a (55 + 8 * z) ≤ 10000
        omega
      · rw [uI_n e]; exact ih (by omega) i (by omega)
    · rw [if_neg c] at hi ⊢; exact ih (by omega) i hi
theorem RS_id (M : MM) (a : Nat → Int) : RF M a = RS M a (M 25) (M 26) := by
  unfold RS
  rw [sg_id, sg_id]
theorem c_packed {k : Int} {M : MM} {a : Nat → Int} (R : RA (M 0) (M 40) (M 50) a) (S : BS a) {nb : Nat} (hn : a 52 = nb) (h12 : cn (hereP a) nb ≤ 12) (hb : ∀ b, b < nb → BB k a b) {X : Nat} (hX : X < 2 ^ 31) : ∃ M1, lp_X10_wagons_30 FU (up2 M 7 0 0) (iI X) 1 0 = some (if wlt a (iI X) nb = 0 then -2 else iI (Btb (wwt a (iI X) nb) (a 51) (wsz a (iI X) nb) (2 ^ wsz a (iI X) nb - 1) (2 ^ wsz a (iI X) nb - 1) / 32768), M1) ∧ ∀ G, G ≠ 7 → G ≠ 8 → G ≠ 9 → M1 G = M G := by
  have hcb := R.cb
  have S' := S
  unfold BS at S'
  have hsz := wsz_le a (iI X) nb
  have hwb := wwt_b (x := iI X) hb nb (Nat.le_refl _)
  have e0 : up2 M 7 0 0 = sg (sg M 7 (upd (M 7) 0 0)) 8 (M 8) := by
    funext G
    by_cases h : G = 7
    · subst h; rw [up2_gr, sg_n (by omega), sg_s]
    · rw [up2_gn h]
      by_cases h8 : G = 8
      · subst h8; rw [sg_s]
      · rw [sg_n h8, sg_n h]
  obtain ⟨p', w', q1, q2, q3⟩ := l_w30 R hn h12 hb hX nb FU 0 (upd (M 7) 0 0) (M 8) (by omega) (by unfold FU; omega) (by rw [upd_s]; rfl) (fun i hi => absurd hi (Nat.not_lt_zero i))
  obtain ⟨M1, hM1⟩ : ∃ M1, M1 = sg (sg M 7 p') 8 w' := ⟨_, rfl⟩
  rw [← hM1] at q3
  have h7 : M1 7 0 = iI (wsz a (iI X) nb) := by rw [hM1, sg_n (by omega), sg_s, q1]
  have h8 : ∀ i, i < wsz a (iI X) nb → M1 8 i = iI (wwt a (iI X) nb i) := fun i hi => by rw [hM1, sg_s]; exact q2 i hi
  have h40 : M1 (40 + 0) 6 = iI (a 51) := by
    show M1 40 6 = _
    rw [hM1, sg_n (by omega), sg_n (by omega)]; exact R.se (j := 6) (by omega)
  have oth : ∀ G, G ≠ 7 → G ≠ 8 → M1 G = M G := fun G g1 g2 => by rw [hM1, sg_n g2, sg_n g1]
  have hh := l_heav (M := M1) (by omega) h7 h8 (fun i hi => by have := hwb i hi; omega) (wsz a (iI X) nb) FU 0 (by omega) (by unfold FU; omega) (fun i hi => (hwb i hi).1)
  have hh' : f_X8_heaviest M1 = some (iI (hmx (wwt a (iI X) nb) (wsz a (iI X) nb)), M1) := hh
  have hb1 := hmx_b (W := wwt a (iI X) nb) (B := 10000) (by omega) (wsz a (iI X) nb) (fun i hi => (hwb i hi).2)
  have hle := hmx_le (W := wwt a (iI X) nb) (l := a 51) (by omega) (wsz a (iI X) nb)
  have hall := wlt_all a (iI X) nb
  have h01 := wlt_01 a (iI X) nb
  have goal0 : lp_X10_wagons_30 FU (up2 M 7 0 0) (iI X) 1 0 = wFIN M1 := by rw [e0]; exact q3
  have v6 : vin (6 : Int32) 7 := by decide
  have t6 : (6 : Int32).toNatClampNeg = 6 := by decide
  by_cases c : wlt a (iI X) nb = 0
  · refine ⟨M1, ?_, fun G g1 g2 _ => oth G g1 g2⟩
    rw [goal0, if_pos c]
    unfold wFIN
    rw [if_pos v6, hh', bnd2_s, t6, h40, if_neg (by
      rw [iI_le (by omega) (by omega)]
      intro q
      have := hall.mpr (hle.mp q)
      omega)]
  · have hW : ∀ i, i < wsz a (iI X) nb → 0 ≤ wwt a (iI X) nb i ∧ wwt a (iI X) nb i ≤ a 51 := fun i hi => ⟨(hwb i hi).1, hall.mp (by omega) i hi⟩
    obtain ⟨w'', k2⟩ := c_fewest (M := M1) (l := a 51) (by omega) (by omega) (by omega) hW h7 h8
    refine ⟨sg M1 9 w'', ?_, fun G g1 g2 g3 => by rw [sg_n g3]; exact oth G g1 g2⟩
    rw [goal0, if_neg c]
    unfold wFIN
    rw [if_pos v6, hh', bnd2_s, t6, h40, if_pos (by
      rw [iI_le (by omega) (by omega)]
      exact hle.mpr (fun i hi => (hW i hi).2)), k2, bnd2_s]
theorem r_packed {k : Int} {M : MM} {a : Nat → Int} (S : BS a) {nb : Nat} (hn : a 52 = nb) (h100 : nb ≤ 100) (h12 : cn (hereP a) nb ≤ 12) (hb : ∀ b, b < nb → BB k a b) (x : Int32) : ∃ M1, f_X11_wagons (RF M a) x = some (if x < 0 then -1 else if (x >>> (iI ((cn (hereP a) nb : Nat) : Int) &&& 31) : Int32) = 0 then (if wlt a x nb = 0 then -2 else iI (Btb (wwt a x nb) (a 51) (wsz a x nb) (2 ^ wsz a x nb - 1) (2 ^ wsz a x nb - 1) / 32768)) else -1, RF M1 a) ∧ ∀ G, G ≠ 24 → G ≠ 25 → G ≠ 26 → M1 G = M G := by
  have S' := S
  unfold BS at S'
  have hsz := wsz_le a x nb
  have hwb := wwt_b (x := x) hb nb (Nat.le_refl _)
  have hall := wlt_all a x nb
  have h01 := wlt_01 a x nb
  obtain ⟨w', q1, q2⟩ := l_tb10 (M := M) hn h100 h12 hb S x nb FU 0 (M 24) (by omega) (by unfold FU; omega) (fun i hi => absurd hi (Nat.not_lt_zero i))
  rw [sg_id] at q2
  have q3 : f_X11_takesBells (RF M a) x = some (tbR a x nb, RF (sg M 24 w') a) := q2
  unfold f_X11_wagons
  rw [q3, bnd2_s]
  have stop : ∀ r : Int32, tbR a x nb = r → ¬ 0 < r → (if 0 < (tbR a x nb : Int32) then (if vin (0) 4096 then (letB (up2 (RF (sg M 24 w') a) 25 (0 : Int32).toNatClampNeg (0)) fun M6 => (bnd2 (f_X11_setting M6 6) fun r7 M8 => (if vin (0) 4096 then (letB (up2 M8 26 (0 : Int32).toNatClampNeg (r7)) fun M11 => (lp_X11_wagons_33 FU M11 x (tbR a x nb) 1)) else none))) else none) else some (tbR a x nb, RF (sg M 24 w') a)) = some (r, RF (sg M 24 w') a) := by
    intro r h1 h2
    rw [h1, if_neg h2]
  by_cases c : x < 0
  · rw [if_pos c]
    exact ⟨sg M 24 w', stop (-1) (by unfold tbR; rw [if_pos c]) (by decide), fun G g1 _ _ => sg_n g1⟩
  · rw [if_neg c]
    by_cases d : (x >>> (iI ((cn (hereP a) nb : Nat) : Int) &&& 31) : Int32) = 0
    · rw [if_pos d]
      by_cases e : wlt a x nb = 0
      · rw [if_pos e]
        exact ⟨sg M 24 w', stop (-2) (by unfold tbR; rw [if_neg c, if_pos d, if_pos e]) (by decide), fun G g1 _ _ => sg_n g1⟩
      · rw [if_neg e]
        have et : tbR a x nb = iI (wsz a x nb) := by unfold tbR; rw [if_neg c, if_pos d, if_neg e]
        by_cases z : wsz a x nb = 0
        · rw [z] at et ⊢
          have e0 : Btb (wwt a x nb) (a 51) 0 (2 ^ 0 - 1) (2 ^ 0 - 1) = a 51 := by
            show Btb _ _ _ 0 0 = _
            unfold Btb; rw [uI_s]
          rw [e0, show a 51 / 32768 = 0 by omega]
          exact ⟨sg M 24 w', stop (iI 0) et (by decide), fun G g1 _ _ => sg_n g1⟩
        · have hW : ∀ i, i < wsz a x nb → 0 ≤ wwt a x nb i ∧ wwt a x nb i ≤ a 51 := fun i hi => ⟨(hwb i hi).1, hall.mp (by omega) i hi⟩
          have v0 : vin (0 : Int32) 4096 := by decide
          have t0 : (0 : Int32).toNatClampNeg = 0 := by decide
          obtain ⟨M3, hM3⟩ : ∃ M3, M3 = sg M 24 w' := ⟨_, rfl⟩
          have h24 : ∀ i, i < wsz a x nb → M3 24 i = iI (wwt a x nb i) := fun i hi => by rw [hM3, sg_s]; exact q1 i hi
          obtain ⟨g', e', k3⟩ := l_r33 (M := M3) (x := x) (show wsz a x nb ≤ 12 by omega) (by omega) (by omega) hW h24 (2 ^ wsz a x nb - 1) FU 0 (upd (M3 25) 0 (iI 0)) (upd (M3 26) 0 (iI (a 51))) (by have := Nat.two_pow_pos (wsz a x nb); omega) (by
            have h := p2_le (show wsz a x nb ≤ 12 by omega)
            have e12 : (2 : Nat) ^ 12 = 4096 := rfl
            unfold FU; omega) (fun q hq => by
            obtain rfl : q = 0 := by omega
            rw [upd_s, upd_s, Btb, uI_s, show a 51 / 32768 = 0 by omega, show a 51 % 32768 = a 51 by omega]
            exact ⟨rfl, rfl⟩)
          refine ⟨sg (sg M3 25 g') 26 e', ?_, fun G g1 g2 g3 => by rw [sg_n g3, sg_n g2, hM3, sg_n g1]⟩
          rw [et, if_pos (by rw [Z0, iI_lt (by omega) (by omega)]; omega), if_pos v0]
          simp only [t0, ← hM3]
          rw [RS_id M3 a, up2_R25, letB_e, RS_set, bnd2_s, if_pos v0, up2_R26, letB_e]
          exact k3
    · rw [if_neg d]
      exact ⟨sg M 24 w', stop (-1) (by unfold tbR; rw [if_neg c, if_neg d]) (by decide), fun G g1 _ _ => sg_n g1⟩
theorem o_wagons {k : Int} (x : Int32) : CALL k (fun M => f_X10_wagons M x) (fun M => f_X11_wagons M x) := by
  apply both
  intro M a n H L t vc vb
  obtain ⟨X, hX, rfl⟩ := ofI x
  have R := vc.1
  have hM' := vb.1.1
  have hS := vb.1.2.1
  unfold BM at hM'
  have hB := vb.1.2.2.2.1
  have hN := vb.1.2.2.2.2.2.1
  obtain ⟨nb, hnb⟩ : ∃ nb : Nat, a 52 = nb := ⟨(a 52).toNat, by omega⟩
  have hnt : (a 52).toNat = nb := by omega
  rw [hnt] at hB
  have hN' : cn (hereP a) nb ≤ 12 := by unfold hereN at hN; rw [hnt] at hN; exact hN
  have hNe : hereN a = cn (hereP a) nb := by unfold hereN; rw [hnt]
  have hp12 := p2_le hN'
  have e12 : (2 : Nat) ^ 12 = 4096 := rfl
  have ref : ∀ (r : Int32), (if iI X < 0 then -1 else if (iI X >>> (iI ((cn (hereP a) nb : Nat) : Int) &&& 31) : Int32) = 0 then (if wlt a (iI X) nb = 0 then -2 else iI (Btb (wwt a (iI X) nb) (a 51) (wsz a (iI X) nb) (2 ^ wsz a (iI X) nb - 1) (2 ^ wsz a (iI X) nb - 1) / 32768)) else -1 : Int32) = r → ∀ M1, VR M1 a n H L t → OPR (f_X11_wagons M1 (iI X)) M1 r a n H L t := by
    intro r hr M1 vr
    obtain ⟨M2, k2, g2⟩ := r_packed (M := M1) hS hnb (by omega) hN' hB (iI X)
    rw [hr] at k2
    exact OPR.go2 (f := fun M => f_X11_wagons M (iI X)) vr (vr.scr (fun G hG => g2 G (by omega) (by omega) (by omega))) (fun G hG => g2 G (by omega) (by omega) (by omega)) k2
  have hrem := c_remaining R (by omega) (by rw [hnt]; exact hB)
  by_cases c : X < 0
  · have c' : iI X < 0 := by rw [Z0, iI_lt hX (by omega)]; exact c
    refine ⟨-1, a, n, H, L, t, vb.succ, OPC.same vc ?_, ref (-1) (by rw [if_pos c'])⟩
    unfold f_X10_wagons
    rw [if_pos c']
  · have c' : ¬ iI X < 0 := by rw [Z0, iI_lt hX (by omega)]; exact c
    obtain ⟨y, rfl⟩ : ∃ y : Nat, X = y := ⟨X.toNat, by omega⟩
    have hy : y < 2 ^ 31 := by
      have := hX.2
      have e31 : (2 : Nat) ^ 31 = 2147483648 := rfl
      omega
    have hsh : (iI (y : Int) >>> (iI ((cn (hereP a) nb : Nat) : Int) &&& 31) : Int32) = 0 ↔ y < 2 ^ cn (hereP a) nb := by
      have hd := Nat.div_le_self y (2 ^ cn (hereP a) nb)
      have key : ∀ q : Nat, q ≤ y → ((iI (q : Int) = iI 0) ↔ q = 0) := fun q hq => by
        rw [iI_inj (by omega) (by omega)]; omega
      have hp := Nat.two_pow_pos (cn (hereP a) nb)
      rw [shr_n hy (by omega), Z0, key _ hd, Nat.div_eq_zero_iff]
      omega
    have hpp : (0 : Int) ≤ ((2 ^ cn (hereP a) nb : Nat) : Int) := Int.natCast_nonneg _
    by_cases d : y < 2 ^ cn (hereP a) nb
    · obtain ⟨M1, k1, g1⟩ := c_packed R hS hnb hN' hB hy
      refine ⟨if wlt a (iI y) nb = 0 then -2 else iI (Btb (wwt a (iI y) nb) (a 51) (wsz a (iI y) nb) (2 ^ wsz a (iI y) nb - 1) (2 ^ wsz a (iI y) nb - 1) / 32768), a, n, H, L, t, vb.succ, ⟨M1, ?_, vc.scr (fun G hG => g1 G (by omega) (by omega) (by omega)), fun G q1 q2 => g1 G (by omega) (by omega) (by omega)⟩, ref _ (by rw [if_neg c', if_pos (hsh.mpr d)])⟩
      unfold f_X10_wagons f_X8_clear
      rw [if_neg c', hrem, bnd2_s, hNe, shl_1 _ (by omega), if_pos (by rw [iI_lt (by omega) (by omega)]; omega), letB_e, bnd2_s]
      exact k1
    · refine ⟨-1, a, n, H, L, t, vb.succ, OPC.same vc ?_, ref (-1) (by rw [if_neg c', if_neg (fun q => d (hsh.mp q))])⟩
      unfold f_X10_wagons
      rw [if_neg c', hrem, bnd2_s, hNe, shl_1 _ (by omega), if_neg (by rw [iI_lt (by omega) (by omega)]; omega)]
end
