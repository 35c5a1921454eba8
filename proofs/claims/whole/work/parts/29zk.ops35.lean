section
/-! Frames: the reference's steps. -/
def fRC (f fu2 : Nat) (N : MM) : Option (Int32 × MM) := bnd2 (lp_X11_takesRest_0 fu2 N) fun r N1 => (if (r : Int32) = 0 then some (0, N1) else (if (N1 20 15 : Int32) ≤ 0 then (lp_X11_reads_37 f N1 0) else (lp_X11_reads_37 f N1 1)))
theorem r_bell_ok {k : Int} {N : MM} {a : Nat → Int} {L pos op mn bm ds : Nat} {sl : Int} {t : Nat → Int} {hb dp c bc : Nat → Nat} (h21 : N 21 = iF a) (h52 : 0 ≤ a 52 ∧ a 52 ≤ 100) (hB : ∀ b, b < (a 52).toNat → BB k a b) (h : frI N a 0 pos op mn bm ds sl hb dp c bc) (g : fgI a 0 pos op mn bm ds sl hb dp c bc) (hL : pos < 60) {b : Nat} (hnu : nuI t L pos = b) (hb1 : b < (a 52).toNat) (hb2 : a (60 + 8 * b) < 2) (hb3 : ∀ k, k < mn → hb k ≠ b) : rBL N L pos t = some (1, fPU N mn op b (wdN t L pos) pos (wgt a b)) := by
  obtain ⟨⟨h1, h2, h3, h4, h5, h6⟩, h7, h8⟩ := h
  obtain ⟨⟨g1, g2, g3, g4, g5, g6, g7, g8⟩, g9, -, g11⟩ := g
  rw [if_pos rfl] at g8
  have Bb := hB b hb1
  have b6 := Bb.2.2.2.2.2.1
  have hi := r_isBell (M := N) (a := a) (x := (b : Int)) (by omega) h52
  have hh := r_isHere (M := N) (a := a) (j := b) (by omega) b6
  rw [RFe h21] at hi hh
  have hl := l_76 (P := twP t L pos) h21 (show mn < 30 by omega) g1 (show pos ≤ 60 by omega) (show b < 100 by omega) h2 h6 h1 (fun k hk => (h7 k hk).1) (fun k hk => by have := (g9 k hk).1; omega) hb3 mn FU 0 (by omega) (by unfold FU; omega)
  unfold rBL
  rw [hnu, hi, bnd2_s, ify (by omega), hh, bnd2_s, ify hb2]
  exact hl
theorem r_bell_no {k : Int} {N : MM} {a : Nat → Int} {L pos : Nat} {t : Nat → Int} (h21 : N 21 = iF a) (h52 : 0 ≤ a 52 ∧ a 52 ≤ 100) (hB : ∀ b, b < (a 52).toNat → BB k a b) {b : Nat} (hnu : nuI t L pos = b) (hb : b ≤ 99) (hno : ¬ (b < (a 52).toNat ∧ a (60 + 8 * b) < 2)) : rBL N L pos t = some (0, up2 N 20 19 2) := by
  have hi := r_isBell (M := N) (a := a) (x := (b : Int)) (by omega) h52
  rw [RFe h21] at hi
  unfold rBL
  rw [hnu, hi, bnd2_s]
  by_cases c : b < (a 52).toNat
  · have Bb := hB b c
    have b6 := Bb.2.2.2.2.2.1
    have hh := r_isHere (M := N) (a := a) (j := b) (by omega) b6
    rw [RFe h21] at hh
    rw [ify (by omega), hh, bnd2_s, ifn (fun q => hno ⟨c, q⟩)]
    rfl
  · rw [ifn (by omega)]
    rfl
theorem r_bell_hung {k : Int} {N : MM} {a : Nat → Int} {L pos op mn bm ds : Nat} {sl : Int} {t : Nat → Int} {hb dp c bc : Nat → Nat} (h21 : N 21 = iF a) (h52 : 0 ≤ a 52 ∧ a 52 ≤ 100) (hB : ∀ b, b < (a 52).toNat → BB k a b) (h : frI N a 0 pos op mn bm ds sl hb dp c bc) (g : fgI a 0 pos op mn bm ds sl hb dp c bc) (hL : pos < 60) {b : Nat} (hnu : nuI t L pos = b) (hb1 : b < (a 52).toNat) (hb2 : a (60 + 8 * b) < 2) (hb3 : ∃ k, k < mn ∧ hb k = b) : rBL N L pos t = some (0, up2 N 20 19 3) := by
  obtain ⟨⟨h1, h2, h3, h4, h5, h6⟩, h7, h8⟩ := h
  obtain ⟨⟨g1, g2, g3, g4, g5, g6, g7, g8⟩, g9, -, g11⟩ := g
  rw [if_pos rfl] at g8
  obtain ⟨q, q1, q2⟩ := hb3
  have Bb := hB b hb1
  have b6 := Bb.2.2.2.2.2.1
  have hi := r_isBell (M := N) (a := a) (x := (b : Int)) (by omega) h52
  have hh := r_isHere (M := N) (a := a) (j := b) (by omega) b6
  rw [RFe h21] at hi hh
  have hl := l_76f (y := dI (twP t L pos)) (show mn < 30 by omega) (show b < 100 by omega) h2 (fun k hk => (h7 k hk).1) (fun k hk => by have := (g9 k hk).1; omega) mn FU 0 (by omega) (by unfold FU; omega) ⟨q, by omega, q1, q2⟩
  unfold rBL
  rw [hnu, hi, bnd2_s, ify (by omega), hh, bnd2_s, ify hb2]
  exact hl
theorem fr_bell {N : MM} {a : Nat → Int} {pos op mn bm ds wd : Nat} {sl : Int} {hb dp c bc : Nat → Nat} (h : frI N a 0 pos op mn bm ds sl hb dp c bc) (g : fgI a 0 pos op mn bm ds sl hb dp c bc) {b : Nat} : frI (fPU N mn op b wd pos (wgt a b)) a (exN op bc) (pos + wd) op (mn + 1) bm ds sl (uN1 hb mn b) (uN1 dp mn op) c bc ∧ RFr N (fPU N mn op b wd pos (wgt a b)) := by
  obtain ⟨⟨h1, h2, h3, h4, h5, h6⟩, h7, h8, h9⟩ := h
  obtain ⟨-, -, -, g11, -, g13, -⟩ := g
  have cg : ∀ y, y ≤ mn → sm (fwt a (uN1 hb mn b)) y = sm (fwt a hb) y := fun y hy => sm_cg y (fun k hk => by unfold fwt; rw [uN1_n (by omega)])
  unfold fPU
  refine ⟨⟨⟨?_, ?_, ?_, ?_, ?_, ?_⟩, fun k hk => ?_, fun i hi => ?_, fun _ => ?_⟩, ?_⟩
  · rw [up2_in _ (by omega), up2_eq]
  · rw [up2_in _ (by omega), up2_in _ (by omega), up2_eq]
  · rw [up2_in _ (by omega), up2_in _ (by omega), up2_in _ (by omega), up2_gn (by omega), up2_gn (by omega)]; exact h3
  · rw [up2_in _ (by omega), up2_in _ (by omega), up2_in _ (by omega), up2_gn (by omega), up2_gn (by omega)]; exact h4
  · rw [up2_in _ (by omega), up2_in _ (by omega), up2_in _ (by omega), up2_gn (by omega), up2_gn (by omega)]; exact h5
  · rw [up2_in _ (by omega), up2_in _ (by omega), up2_in _ (by omega), up2_gn (by omega), up2_gn (by omega)]; exact h6
  · rw [up2_gn (g' := 28) (by omega), up2_gn (g' := 28) (by omega), up2_gn (g' := 28) (by omega), up2_gn (g' := 28) (by omega), up2_gr, up2_gn (g' := 29) (by omega), up2_gn (g' := 29) (by omega), up2_gn (g' := 29) (by omega), up2_gr, up2_gn (g' := 29) (by omega)]
    by_cases e : k = mn
    · rw [e, upd_s, upd_s, uN1_s, uN1_s]; exact ⟨rfl, rfl⟩
    · rw [upd_n e, upd_n e, uN1_n e, uN1_n e]; exact h7 k (by omega)
  · rw [up2_gn (g' := 31) (by omega), up2_gn (g' := 31) (by omega), up2_gn (g' := 31) (by omega), up2_gn (g' := 31) (by omega), up2_gn (g' := 31) (by omega), up2_gn (g' := 30) (by omega), up2_gn (g' := 30) (by omega), up2_gn (g' := 30) (by omega), up2_gn (g' := 30) (by omega), up2_gn (g' := 30) (by omega), cg _ (g13 (i + 1) (by omega)), cg _ (g13 i (by omega))]
    exact h8 i hi
  · rw [up2_eq, g11.2 rfl]
    congr 1
    show _ = sm (fwt a (uN1 hb mn b)) mn + fwt a (uN1 hb mn b) mn - sm (fwt a (uN1 hb mn b)) mn
    unfold fwt
    rw [uN1_s]; omega
  · exact (((((RFr.refl N).up _ (by omega)).up _ (by omega)).up _ (by omega)).up _ (by omega)).up _ (by omega)
/-! the loop over frames -/
theorem r_reads_bell {N : MM} {L pos : Nat} {t : Nat → Int} (hL : L ≤ 60) (h : fTX N L t) (ht : ∀ i, i < L → 32 ≤ t i ∧ t i ≤ 126) (hp : pos < L) (hd : dgP t pos) (h18 : N 20 18 = iI pos) (f : Nat) : lp_X11_reads_37 (f + 1) N 1 = bnd2 (rBL N L pos t) (fun r N1 => if (r : Int32) = 0 then some (0, N1) else fRC f FU N1) := by
  have vp : vin (iI (pos : Int)) 60 := vinI (by omega) (by omega)
  have tp : (iI (pos : Int)).toNatClampNeg = pos := iI_lo (by omega)
  have hq : pos < L ∧ dgP t pos := ⟨hp, hd⟩
  unfold dgP at hd
  rw [lp_X11_reads_37]
  rw [if_neg (by decide), h18, h.1, if_neg (by rw [iI_inj (by omega) (by omega)]; omega), if_pos vp]
  simp only [tp, h.2 pos hp]
  rw [if_neg (by rw [show (40 : Int32) = iI 40 from rfl, iI_inj (by omega) (by omega)]; omega), if_pos trivial, r_isDigit hL h ht (by omega), bnd2_s, ify hq, r_takesBell hL h ht hp hq.2 h18]
  rfl
theorem r_reads_end {N : MM} {L : Nat} {t : Nat → Int} (h : fTX N L t) (h18 : N 20 18 = iI L) (f : Nat) : lp_X11_reads_37 (f + 1) N 1 = some (0, up2 N 20 19 4) := by
  rw [lp_X11_reads_37]
  rw [if_neg (by decide), h18, h.1, if_pos rfl]
  rfl
theorem r_reads_bad {N : MM} {L pos op : Nat} {t : Nat → Int} (hL : L ≤ 60) (h : fTX N L t) (ht : ∀ i, i < L → 32 ≤ t i ∧ t i ≤ 126) (hp : pos < L) (hd : ¬ dgP t pos) (h18 : N 20 18 = iI pos) (h15 : N 20 15 = iI op) (hop : op ≤ 5) (hno : ¬ (t pos = 40 ∧ op < 5)) (f : Nat) : lp_X11_reads_37 (f + 1) N 1 = some (0, up2 N 20 19 1) := by
  have vp : vin (iI (pos : Int)) 60 := vinI (by omega) (by omega)
  have tp : (iI (pos : Int)).toNatClampNeg = pos := iI_lo (by omega)
  have htp := ht pos hp
  have hq : ¬ (pos < L ∧ dgP t pos) := fun q => hd q.2
  rw [lp_X11_reads_37]
  rw [if_neg (by decide), h18, h.1, if_neg (by rw [iI_inj (by omega) (by omega)]; omega), if_pos vp]
  simp only [tp, h.2 pos hp]
  by_cases c : t pos = 40
  · rw [if_pos (by rw [c]; rfl), if_neg (by decide), h15, if_pos (by rw [Z5, iI_le (by omega) (by omega)]; omega), r_isDigit hL h ht (by omega), bnd2_s, ifn hq]
    rfl
  · rw [if_neg (by rw [show (40 : Int32) = iI 40 from rfl, iI_inj (by omega) (by omega)]; omega), if_pos trivial, r_isDigit hL h ht (by omega), bnd2_s, ifn hq]
    rfl
theorem r_reads_open {N : MM} {a : Nat → Int} {L pos op mn bm ds : Nat} {sl : Int} {t : Nat → Int} {hb dp c bc : Nat → Nat} (hL : L ≤ 60) (h : fTX N L t) (hp : pos < L) (h40 : t pos = 40) (hr : frI N a 0 pos op mn bm ds sl hb dp c bc) (g : fgI a 0 pos op mn bm ds sl hb dp c bc) (hop : op < 5) (f : Nat) : ∃ N1, lp_X11_reads_37 (f + 1) N 1 = lp_X11_reads_37 f N1 1 ∧ RFr N N1 ∧ frI N1 a 0 (pos + 1) (op + 1) mn (bm + 1) (mxN ds (op + 1)) sl hb dp (uN1 c (op + 1) (c op)) (uN1 bc op 0) := by
  obtain ⟨⟨h1, h2, h3, h4, h5, h6⟩, h7, h8, h9⟩ := hr
  obtain ⟨⟨g1, g2, g3, g4, g5, g6, g7, g8⟩, -, -, g11, -, g13, -⟩ := g
  have vp : vin (iI (pos : Int)) 60 := vinI (by omega) (by omega)
  have tp : (iI (pos : Int)).toNatClampNeg = pos := iI_lo (by omega)
  have eo : iI (op : Int) + 1 = iI ((op + 1 : Nat) : Int) := by rw [Z1, iI_add]; congr 1
  have eb : iI (bm : Int) + 1 = iI ((bm + 1 : Nat) : Int) := by rw [Z1, iI_add]; congr 1
  have ep : iI (pos : Int) + 1 = iI ((pos + 1 : Nat) : Int) := by rw [Z1, iI_add]; congr 1
  have vo : vin (iI ((op + 1 : Nat) : Int)) 6 := vinI (by omega) (by omega)
  have to : (iI ((op + 1 : Nat) : Int)).toNatClampNeg = op + 1 := iI_lo (by omega)
  obtain ⟨N2, hN2⟩ : ∃ N2, N2 = up2 (up2 N 20 15 (iI ((op + 1 : Nat) : Int))) 20 12 (iI ((bm + 1 : Nat) : Int)) := ⟨_, rfl⟩
  have n15 : N2 20 15 = iI ((op + 1 : Nat) : Int) := by rw [hN2, up2_in _ (by omega), up2_eq]
  have n13 : N2 20 13 = iI ds := by rw [hN2, up2_in _ (by omega), up2_in _ (by omega)]; exact h4
  have n18 : N2 20 18 = iI pos := by rw [hN2, up2_in _ (by omega), up2_in _ (by omega)]; exact h1
  have m15 : ∀ x, up2 N2 20 13 x 20 15 = iI ((op + 1 : Nat) : Int) := fun x => by rw [up2_in _ (by omega)]; exact n15
  have m18 : ∀ x, up2 (up2 N2 20 13 x) 31 (op + 1) 0 20 18 = iI pos := fun x => by rw [up2_gn (by omega), up2_in _ (by omega)]; exact n18
  refine ⟨up2 (up2 (up2 N2 20 13 (iI ((mxN ds (op + 1) : Nat) : Int))) 31 (op + 1) 0) 20 18 (iI ((pos + 1 : Nat) : Int)), ?_, ?_, ?_⟩
  · rw [lp_X11_reads_37]
    rw [if_neg (by decide), h1, h.1, if_neg (by rw [iI_inj (by omega) (by omega)]; omega), if_pos vp]
    simp only [tp, h.2 pos hp]
    rw [if_pos (by rw [h40]; rfl), if_neg (by decide), h6, if_neg (by rw [Z5, iI_le (by omega) (by omega)]; omega), eo, letB_e, up2_in 20 (show 12 ≠ 15 by omega), h3, eb, letB_e, ← hN2, n15, n13]
    by_cases q : ds < op + 1
    · have e : mxN ds (op + 1) = op + 1 := by unfold mxN; rw [if_pos q]
      rw [if_neg (by rw [iI_le (by omega) (by omega)]; omega), letB_e, m15, if_pos vo]
      simp only [to, letB_e, m18, ep, e]
    · have e : mxN ds (op + 1) = ds := by unfold mxN; rw [if_neg q]
      rw [if_pos (by rw [iI_le (by omega) (by omega)]; omega), letB_e, m15, if_pos vo]
      simp only [to, letB_e, m18, ep, e]
  · rw [hN2]
    exact (((((RFr.refl N).up _ (by omega)).up _ (by omega)).up _ (by omega)).up _ (by omega)).up _ (by omega)
  · refine ⟨⟨?_, ?_, ?_, ?_, ?_, ?_⟩, fun k hk => ?_, fun i hi => ?_, fun he => absurd rfl he⟩
    · rw [up2_eq]
    · rw [up2_in _ (by omega), up2_gn (by omega), up2_in _ (by omega), hN2, up2_in _ (by omega), up2_in _ (by omega)]; exact h2
    · rw [up2_in _ (by omega), up2_gn (by omega), up2_in _ (by omega), hN2, up2_eq]
    · rw [up2_in _ (by omega), up2_gn (by omega), up2_eq]
    · rw [up2_in _ (by omega), up2_gn (by omega), up2_in _ (by omega), hN2, up2_in _ (by omega), up2_in _ (by omega)]; exact h5
    · rw [up2_in _ (by omega), up2_gn (by omega), up2_in _ (by omega)]; exact n15
    · rw [up2_gn (g' := 28) (by omega), up2_gn (g' := 28) (by omega), up2_gn (g' := 28) (by omega), up2_gn (g' := 29) (by omega), up2_gn (g' := 29) (by omega), up2_gn (g' := 29) (by omega), hN2, up2_gn (g' := 28) (by omega), up2_gn (g' := 28) (by omega), up2_gn (g' := 29) (by omega), up2_gn (g' := 29) (by omega)]
      exact h7 k hk
    · rw [up2_gn (g' := 31) (by omega), up2_gr, up2_gn (g' := 31) (by omega), up2_gn (g' := 30) (by omega), up2_gn (g' := 30) (by omega), up2_gn (g' := 30) (by omega), hN2, up2_gn (g' := 31) (by omega), up2_gn (g' := 31) (by omega), up2_gn (g' := 30) (by omega), up2_gn (g' := 30) (by omega)]
      by_cases e : i = op
      · rw [e, upd_s, uN1_s]
        exact ⟨rfl, fun q => by omega⟩
      · rw [upd_n (by omega), uN1_n e, uN1_n (show i + 1 ≠ op + 1 by omega), uN1_n (show i ≠ op + 1 by omega)]
        exact h8 i (by omega)
end
