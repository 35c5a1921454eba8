section
/-! The call wagons. -/
theorem VC.scr {M M1 : MM} {a : Nat → Int} {n : Nat} {H : Nat → Nat → Int} {L : Nat} {t : Nat → Int} (h : VC M a n H L t) (hF : ∀ G, (G < 7 ∨ G = 14 ∨ G = 35 ∨ (40 ≤ G ∧ G < 60)) → M1 G = M G) : VC M1 a n H L t := by
  obtain ⟨h1, ⟨g1, g2, g3, g4, g5, g6⟩, h3, h4⟩ := h
  refine ⟨?_, ⟨?_, g2, ?_, ?_, ?_, ?_⟩, ?_, ?_⟩
  · rw [hF 0 (by omega), hF 40 (by omega), hF 50 (by omega)]; exact h1
  · rw [hF 6 (by omega)]; exact g1
  · rw [hF 35 (by omega)]; exact g3
  · rw [hF 35 (by omega)]; exact g4
  · intro k hk; rw [hF _ (by omega)]; exact g5 k hk
  · intro i hi
    have := g3 i (by omega)
    rw [hF 35 (by omega), hF (pm (M 35) i) (by omega), hF (40 + pm (M 35) i) (by omega), hF (50 + pm (M 35) i) (by omega)]
    exact g6 i hi
  · rw [hF 5 (by omega)]; exact h3
  · rw [hF 14 (by omega)]; exact h4
theorem wwt_b {k : Int} {a : Nat → Int} {x : Int32} {nb : Nat} (hb : ∀ b, b < nb → BB k a b) : ∀ z, z ≤ nb → ∀ i, i < wsz a x z → 0 ≤ wwt a x z i ∧ wwt a x z i ≤ 10000 := by
  intro z
  induction z with
  | zero => intro _ i hi; exact absurd hi (Nat.not_lt_zero i)
  | succ z ih =>
    intro hz i hi
    unfold wsz at hi
    unfold wwt
    have B := hb z (by omega)
    unfold BB at B
    by_cases c : slP a x z
    · rw [if_pos c] at hi ⊢
      by_cases e : i = wsz a x z
      · rw [e, uI_s]
        show 0 ≤ a (54 + 8 * z) + a (55 + 8 * z) ∧ a (54 + 8 * z) + a (55 + 8 * z) ≤ 10000
        omega
      · rw [uI_n e]; exact ih (by omega) i (by omega)
    · rw [if_neg c] at hi ⊢; exact ih (by omega) i hi
theorem c_packed {k : Int} {M : MM} {a : Nat → Int} (R : RA (M 0) (M 40) (M 50) a) (S : BS a) {nb : Nat} (hn : a 52 = nb) (h12 : cn (hereP a) nb ≤ 12) (hb : ∀ b, b < nb → BB k a b) {X : Nat} (hX : X < 2 ^ 31) : ∃ M1, lp_X10_wagons_30 FU (up2 M 7 0 0) (iI X) 1 0 = some (if wlt a (iI X) nb = 0 then -2 else iI (Btb (wwt a (iI X) nb) (a 51) (wsz a (iI X) nb) (2 ^ wsz a (iI X) nb - 1) (2 ^ wsz a (iI X) nb - 1) / 32768), M1) ∧ ∀ G, G ≠ 7 → G ≠ 8 → G ≠ 9 → M1 G = M G := by
  have hcb := R.cb
  have S' := S
  unfold BS at S'
  have hsz := wsz_le a (iI X) nb
  have hwb := wwt_b (x := iI X) hb nb (Nat.le_refl _)
  have e0 : up2 M 7 0 0 = sg (sg M 7 (upd (M 7) 0 0)) 8 (M 8) := by
    funext G
    by_cases h : G = 7
    · subst h; rw [up2_gr, sg_n (by omega), sg_s]
    · rw [up2_gn h]
      by_cases h8 : G = 8
      · subst h8; rw [sg_s]
      · rw [sg_n h8, sg_n h]
  obtain ⟨p', w', q1, q2, q3⟩ := l_w30 R hn h12 hb hX nb FU 0 (upd (M 7) 0 0) (M 8) (by omega) (by unfold FU; omega) (by rw [upd_s]; rfl) (fun i hi => absurd hi (Nat.not_lt_zero i))
  obtain ⟨M1, hM1⟩ : ∃ M1, M1 = sg (sg M 7 p') 8 w' := ⟨_, rfl⟩
  rw [← hM1] at q3
  have h7 : M1 7 0 = iI (wsz a (iI X) nb) := by rw [hM1, sg_n (by omega), sg_s, q1]
  have h8 : ∀ i, i < wsz a (iI X) nb → M1 8 i = iI (wwt a (iI X) nb i) := fun i hi => by rw [hM1, sg_s]; exact q2 i hi
  have h40 : M1 (40 + 0) 6 = iI (a 51) := by
    show M1 40 6 = _
    rw [hM1, sg_n (by omega), sg_n (by omega)]; exact R.se (j := 6) (by omega)
  have oth : ∀ G, G ≠ 7 → G ≠ 8 → M1 G = M G := fun G g1 g2 => by rw [hM1, sg_n g2, sg_n g1]
  have hh := l_heav (M := M1) (by omega) h7 h8 (fun i hi => by have := hwb i hi; omega) (wsz a (iI X) nb) FU 0 (by omega) (by unfold FU; omega) (fun i hi => (hwb i hi).1)
  have hh' : f_X8_heaviest M1 = some (iI (hmx (wwt a (iI X) nb) (wsz a (iI X) nb)), M1) := hh
  have hb1 := hmx_b (W := wwt a (iI X) nb) (B := 10000) (by omega) (wsz a (iI X) nb) (fun i hi => (hwb i hi).2)
  have hle := hmx_le (W := wwt a (iI X) nb) (l := a 51) (by omega) (wsz a (iI X) nb)
  have hall := wlt_all a (iI X) nb
  have h01 := wlt_01 a (iI X) nb
  have goal0 : lp_X10_wagons_30 FU (up2 M 7 0 0) (iI X) 1 0 = wFIN M1 := by rw [e0]; exact q3
  have v6 : vin (6 : Int32) 7 := by decide
  have t6 : (6 : Int32).toNatClampNeg = 6 := by decide
  by_cases c : wlt a (iI X) nb = 0
  · refine ⟨M1, ?_, fun G g1 g2 _ => oth G g1 g2⟩
    rw [goal0, if_pos c]
    unfold wFIN
    rw [if_pos v6, hh', bnd2_s, t6, h40, if_neg (by
      rw [iI_le (by omega) (by omega)]
      intro q
      have := hall.mpr (hle.mp q)
      omega)]
  · have hW : ∀ i, i < wsz a (iI X) nb → 0 ≤ wwt a (iI X) nb i ∧ wwt a (iI X) nb i ≤ a 51 := fun i hi => ⟨(hwb i hi).1, hall.mp (by omega) i hi⟩
    obtain ⟨w'', k2⟩ := c_fewest (M := M1) (l := a 51) (by omega) (by omega) (by omega) hW h7 h8
    refine ⟨sg M1 9 w'', ?_, fun G g1 g2 g3 => by rw [sg_n g3]; exact oth G g1 g2⟩
    rw [goal0, if_neg c]
    unfold wFIN
    rw [if_pos v6, hh', bnd2_s, t6, h40, if_pos (by
      rw [iI_le (by omega) (by omega)]
      exact hle.mpr (fun i hi => (hW i hi).2)), k2, bnd2_s]
end
