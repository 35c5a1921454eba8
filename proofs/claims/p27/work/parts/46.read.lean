/-! THE LAW'S METHODS: areLoads: the text that it types, as the class reads it. -/
def RS (a : Nat → Int) (n : Nat) (H : Nat → Nat → Int) (L : Nat) (t : Nat → Int) (ex pos op mn bm ds : Nat) (sl : Int) (hb dp c bc : Nat → Nat) (f : Nat) (o : Option (Unit × MM)) : Prop := ∃ M, o = lp_X1_read_7 f M 0 (iI L) (iI pos) ∧ VC M a n H L t ∧ fcI M a ex op mn bm ds sl hb dp c bc ∧ fgI a ex pos op mn bm ds sl hb dp c bc
section RDR
variable {k : Int} {M : MM} {a : Nat → Int} {n : Nat} {H : Nat → Nat → Int} {L : Nat} {t : Nat → Int} {ex pos op mn bm ds : Nat} {sl : Int} {hb dp c bc : Nat → Nat} {f : Nat} {o : Option (Unit × MM)}
theorem rs_begin (vc : VC M a n H L t) : RS a n H L t 0 0 0 0 0 0 0 (fun _ => 0) (fun _ => 0) (fun _ => 0) (fun _ => 0) FU (f_X1_read M 0 (iI L)) := by
  obtain ⟨M1, e, f1, h⟩ := c_begin M a
  refine ⟨M1, ?_, vc.cfr f1, h, g_begin a⟩
  unfold f_X1_read
  rw [e, bnd2_s]
  rfl
theorem rs_open (vb : VB k a n H L t) (h : RS a n H L t 0 pos op mn bm ds sl hb dp c bc f o) (hf : 0 < f) (hp : pos < L) (ht : t pos = 40) (h5 : op < 5) {pos' op' bm' ds' : Nat} (e1 : pos' = pos + 1) (e2 : op' = op + 1) (e3 : bm' = bm + 1) (e4 : ds' = mxN ds (op + 1)) : RS a n H L t 0 pos' op' mn bm' ds' sl hb dp (uN1 c (op + 1) (c op)) (uN1 bc op 0) (f - 1) o := by
  subst e1; subst e2; subst e3; subst e4
  obtain ⟨M, e, vc, hc, g⟩ := h
  obtain ⟨f, rfl⟩ : ∃ f', f = f' + 1 := ⟨f - 1, by omega⟩
  obtain ⟨hL, htx⟩ := vb.2.2.2
  have fp : CFr M (up2 M 10 1 (iI pos)) := (CFr.refl M).up _ (by omega)
  obtain ⟨M1, k1, f1, hc1⟩ := c_open (hc.pr (iI pos) (Or.inl rfl) g.1.1) g (by omega) h5
  have f2 : CFr M1 (up2 M1 10 2 0) := (CFr.refl M1).up _ (by omega)
  have es : fSG (up2 M 10 1 (iI pos)) (t pos) = some (0, M1) := by unfold fSG; rw [if_pos ht]; exact k1
  refine ⟨up2 M1 10 2 0, ?_, ((vc.cfr fp).cfr f1).cfr f2, hc1.pr _ (by omega) (by omega), g_open g h5⟩
  rw [e, l_step hL hp vc.2.2.2 htx f, if_neg (by omega), es, bnd2_s, fCT_go, Nat.add_sub_cancel]
theorem rs_bell (vb : VB k a n H L t) (h : RS a n H L t 0 pos op mn bm ds sl hb dp c bc f o) (hf : 0 < f) (hp : pos < L) (hd : dgP t pos) {b w : Nat} (hn : nuI t L pos = b) (hw : wdN t L pos = w) (hb1 : b < (a 52).toNat) (hb2 : a (60 + 8 * b) < 2) (hb3 : ∀ k, k < mn → hb k ≠ b) {ex' pos' mn' : Nat} (e0 : ex' = exN op bc) (e1 : pos' = pos + w) (e2 : mn' = mn + 1) : RS a n H L t ex' pos' op mn' bm ds sl (uN1 hb mn b) (uN1 dp mn op) c bc (f - 1) o := by
  subst e0; subst e1; subst e2
  obtain ⟨M, e, vc, hc, g⟩ := h
  obtain ⟨f, rfl⟩ : ∃ f', f = f' + 1 := ⟨f - 1, by omega⟩
  obtain ⟨hL, htx⟩ := vb.2.2.2
  have fp : CFr M (up2 M 10 1 (iI pos)) := (CFr.refl M).up _ (by omega)
  have vp := vc.cfr fp
  obtain ⟨M1, k1, f1, hc1⟩ := c_bell vp.1 vb.1.2.2.2.1 (hc.pr (iI pos) (Or.inl rfl) g.1.1) g (by omega) hb1 hb2 hb3
  have f2 : CFr M1 (up2 M1 10 2 0) := (CFr.refl M1).up _ (by omega)
  have hw1 : 1 ≤ w := by rw [← hw]; unfold wdN; split <;> omega
  refine ⟨up2 M1 10 2 0, ?_, (vp.cfr f1).cfr f2, hc1.pr _ (by omega) g.1.1, g_bell g hb1 hb2 (by omega)⟩
  rw [e, l_step hL hp vc.2.2.2 htx f, if_pos hd, hn, k1, bnd2_s, fCT_go, hw, Nat.add_sub_cancel]
theorem rs_comma {i0 : Nat} (vb : VB k a n H L t) (h : RS a n H L t 1 pos (i0 + 1) mn bm ds sl hb dp c bc f o) (hf : 0 < f) (hp : pos < L) (ht : t pos = 44) {pos' : Nat} (e1 : pos' = pos + 1) : RS a n H L t 0 pos' (i0 + 1) mn bm ds sl hb dp (uN1 c (i0 + 1) mn) (uN1 bc i0 1) (f - 1) o := by
  subst e1
  obtain ⟨M, e, vc, hc, g⟩ := h
  obtain ⟨f, rfl⟩ : ∃ f', f = f' + 1 := ⟨f - 1, by omega⟩
  obtain ⟨hL, htx⟩ := vb.2.2.2
  have fp : CFr M (up2 M 10 1 (iI pos)) := (CFr.refl M).up _ (by omega)
  obtain ⟨M1, k1, f1, hc1⟩ := c_comma (hc.pr (iI pos) (Or.inl rfl) g.1.1) g
  have f2 : CFr M1 (up2 M1 10 2 0) := (CFr.refl M1).up _ (by omega)
  have es : fSG (up2 M 10 1 (iI pos)) (t pos) = some (0, M1) := by unfold fSG; rw [if_neg (by omega), if_pos ht]; exact k1
  refine ⟨up2 M1 10 2 0, ?_, ((vc.cfr fp).cfr f1).cfr f2, hc1.pr _ (by omega) g.1.1, g_comma g⟩
  rw [e, l_step hL hp vc.2.2.2 htx f, if_neg (by omega), es, bnd2_s, fCT_go, Nat.add_sub_cancel]
theorem rs_close {i0 : Nat} (vb : VB k a n H L t) (h : RS a n H L t 2 pos (i0 + 1) mn bm ds sl hb dp c bc f o) (hf : 0 < f) (hp : pos < L) (ht : t pos = 41) {ex' pos' : Nat} {sl' : Int} (e0 : ex' = exN i0 bc) (e1 : pos' = pos + 1) (e2 : sl' = mxI sl (abI ((sm (fwt a hb) (c (i0 + 1)) - sm (fwt a hb) (c i0)) - (sm (fwt a hb) mn - sm (fwt a hb) (c (i0 + 1)))))) : RS a n H L t ex' pos' i0 mn bm ds sl' hb dp c bc (f - 1) o := by
  subst e0; subst e1; subst e2
  obtain ⟨M, e, vc, hc, g⟩ := h
  obtain ⟨f, rfl⟩ : ∃ f', f = f' + 1 := ⟨f - 1, by omega⟩
  obtain ⟨hL, htx⟩ := vb.2.2.2
  have fp : CFr M (up2 M 10 1 (iI pos)) := (CFr.refl M).up _ (by omega)
  obtain ⟨M1, k1, f1, hc1, hF, hW⟩ := c_close vb.1.2.2.2.1 (hc.pr (iI pos) (Or.inl rfl) g.1.1) g (by omega)
  have f2 : CFr M1 (up2 M1 10 2 0) := (CFr.refl M1).up _ (by omega)
  have es : fSG (up2 M 10 1 (iI pos)) (t pos) = some (0, M1) := by unfold fSG; rw [if_neg (by omega), if_neg (by omega), if_pos ht]; exact k1
  have g5 := g.1.1
  refine ⟨up2 M1 10 2 0, ?_, ((vc.cfr fp).cfr f1).cfr f2, hc1.pr _ (by omega) (by omega), g_close g (sl_b ⟨g.1.2.2.2.2.2.1, g.1.2.2.2.2.2.2.1⟩ hF hW)⟩
  rw [e, l_step hL hp vc.2.2.2 htx f, if_neg (by omega), es, bnd2_s, fCT_go, Nat.add_sub_cancel]
theorem rs_end (vb : VB k a n H L t) (h : RS a n H L t ex L op mn bm ds sl hb dp c bc f o) (hf : 0 < f) : ∃ M1, o = some ((), M1) ∧ VC M1 a n H L t ∧ M1 10 2 = (if ex = 3 then 0 else 4) ∧ fcI M1 a ex op mn bm ds sl hb dp c bc := by
  obtain ⟨M, e, vc, hc, g⟩ := h
  obtain ⟨f, rfl⟩ : ∃ f', f = f' + 1 := ⟨f - 1, by omega⟩
  refine ⟨_, e.trans (l_end vb.2.2.2.1 g.1.2.2.2.1 hc.1.1 f), vc.cfr (((CFr.refl M).up _ (by omega)).up _ (by omega)), by rw [up2_eq], (hc.pr _ (by omega) g.1.1).pr _ (by omega) g.1.1⟩
theorem rs_more (vb : VB k a n H L t) (h : RS a n H L t 3 pos op mn bm ds sl hb dp c bc f o) (hf : 0 < f) (hp : pos < L) (ht : t pos = 44) : ∃ M1, o = some ((), M1) ∧ VC M1 a n H L t ∧ M1 10 2 = 1 ∧ M1 10 1 = iI pos := by
  obtain ⟨M, e, vc, hc, g⟩ := h
  obtain ⟨f, rfl⟩ : ∃ f', f = f' + 1 := ⟨f - 1, by omega⟩
  obtain ⟨hL, htx⟩ := vb.2.2.2
  have fp : CFr M (up2 M 10 1 (iI pos)) := (CFr.refl M).up _ (by omega)
  have hcp := hc.pr (iI pos) (Or.inl rfl) g.1.1
  have es : fSG (up2 M 10 1 (iI pos)) (t pos) = some (1, up2 M 10 1 (iI pos)) := c_sign_bad hcp.1.1 (by omega) hcp.1.2.1 g.1.1 (fun q => by omega) (fun _ => by omega) (fun q => by omega)
  refine ⟨up2 (up2 M 10 1 (iI pos)) 10 2 1, ?_, vc.cfr (fp.up _ (by omega)), up2_eq _ _ _ _, by rw [up2_in _ (by omega), up2_eq]⟩
  rw [e, l_step hL hp vc.2.2.2 htx f, if_neg (by omega), es, bnd2_s, fCT_stop (by decide)]
end RDR
/-- a number of a bell, typed at p in w characters -/
def NUM (t : Nat → Int) (p w X : Nat) : Prop := (w = 1 ∧ X < 10 ∧ t p = 48 + (X : Int)) ∨ (w = 2 ∧ 10 ≤ X ∧ X ≤ 99 ∧ t p = 48 + ((X / 10 : Nat) : Int) ∧ t (p + 1) = 48 + ((X % 10 : Nat) : Int))
theorem NUM.w {t : Nat → Int} {p w X : Nat} (h : NUM t p w X) : 1 ≤ w ∧ w ≤ 2 := by
  rcases h with ⟨h, -⟩ | ⟨h, -⟩ <;> omega
theorem NUM.cg {t t' : Nat → Int} {p w X : Nat} (h : NUM t p w X) (e : ∀ i, p ≤ i → i < p + w → t' i = t i) : NUM t' p w X := by
  rcases h with ⟨h1, h2, h3⟩ | ⟨h1, h2, h3, h4, h5⟩
  · exact Or.inl ⟨h1, h2, by rw [e p (by omega) (by omega)]; exact h3⟩
  · exact Or.inr ⟨h1, h2, h3, by rw [e p (by omega) (by omega)]; exact h4, by rw [e (p + 1) (by omega) (by omega)]; exact h5⟩
theorem NUM.rd {t : Nat → Int} {p w X L : Nat} (h : NUM t p w X) (hL : p + w < L) (hd : ¬ dgP t (p + w)) : dgP t p ∧ nuI t L p = X ∧ wdN t L p = w := by
  rcases h with ⟨h1, h2, h3⟩ | ⟨h1, h2, h3, h4, h5⟩
  · subst h1
    have q : ¬ twP t L p := fun q => hd q.2
    refine ⟨by unfold dgP; omega, ?_, ?_⟩
    · unfold nuI; rw [if_neg q]; omega
    · unfold wdN; rw [if_neg q]
  · subst h1
    have q : twP t L p := ⟨by omega, by unfold dgP; omega⟩
    refine ⟨by unfold dgP; omega, ?_, ?_⟩
    · unfold nuI; rw [if_pos q]; omega
    · unfold wdN; rw [if_pos q]
def TA (t : Nat → Int) (w1 x : Nat) : Prop := t 0 = 40 ∧ t 1 = 40 ∧ NUM t 2 w1 x ∧ t (2 + w1) = 44
def TB (t : Nat → Int) (w1 w2 w3 x y z : Nat) : Prop := TA t w1 x ∧ NUM t (3 + w1) w2 y ∧ t (3 + w1 + w2) = 41 ∧ t (4 + w1 + w2) = 44 ∧ NUM t (5 + w1 + w2) w3 z ∧ t (5 + w1 + w2 + w3) = 41
abbrev hrB (a : Nat → Int) (b : Nat) : Prop := b < (a 52).toNat ∧ a (60 + 8 * b) < 2
section RDT
variable {k : Int} {M : MM} {a : Nat → Int} {n : Nat} {H : Nat → Nat → Int} {L : Nat} {t : Nat → Int} {w1 w2 w3 x y z : Nat}
theorem rd_A (vb : VB k a n H L t) (vc : VC M a n H L t) (T : TA t w1 x) (hL : 3 + w1 ≤ L) (hx : hrB a x) : RS a n H L t 0 (3 + w1) 2 1 2 2 0 (uN1 (fun _ => 0) 0 x) (uN1 (fun _ => 0) 0 2) (uN1 (uN1 (uN1 (fun _ => 0) 1 0) 2 0) 2 1) (uN1 (uN1 (uN1 (fun _ => 0) 0 0) 1 0) 1 1) (FU - 1 - 1 - 1 - 1) (f_X1_read M 0 (iI L)) := by
  have hfu : FU = (FU - 10) + 10 := by unfold FU; omega
  obtain ⟨t0, t1, t2, t3⟩ := T
  have hw := t2.w
  obtain ⟨d1, d2, d3⟩ := t2.rd (L := L) (by omega) (by unfold dgP; omega)
  have h0 := rs_begin vc
  have h1 := rs_open vb h0 (by omega) (by omega) t0 (by omega) (pos' := 1) (op' := 1) (bm' := 1) (ds' := 1) rfl rfl rfl rfl
  have h2 := rs_open vb h1 (by omega) (by omega) t1 (by omega) (pos' := 2) (op' := 2) (bm' := 2) (ds' := 2) rfl rfl rfl rfl
  have h3 := rs_bell vb h2 (by omega) (by omega) d1 d2 d3 hx.1 hx.2 (fun k hk => absurd hk (Nat.not_lt_zero k)) (ex' := 1) (pos' := 2 + w1) (mn' := 1) rfl rfl rfl
  exact rs_comma (i0 := 1) vb h3 (by omega) (by omega) t3 (pos' := 3 + w1) (by omega)
theorem rd_B (vb : VB k a n H L t) (vc : VC M a n H L t) (T : TB t w1 w2 w3 x y z) (hL : 6 + w1 + w2 + w3 ≤ L) (hx : hrB a x) (hy : hrB a y) (hz : hrB a z) (n1 : x ≠ y) (n2 : x ≠ z) (n3 : y ≠ z) : ∃ (hb dp c bc : Nat → Nat) (f : Nat), 0 < f ∧ (hb 0 = x ∧ hb 1 = y ∧ hb 2 = z) ∧ (dp 0 = 2 ∧ dp 1 = 2 ∧ dp 2 = 1) ∧ c 0 = 0 ∧ RS a n H L t 3 (6 + w1 + w2 + w3) 0 3 2 2 (mxI (abI (wgt a x - wgt a y)) (abI (wgt a x + wgt a y - wgt a z))) hb dp c bc f (f_X1_read M 0 (iI L)) := by
  have hfu : FU = (FU - 20) + 20 := by unfold FU; omega
  obtain ⟨TA1, u1, u2, u3, u4, u5⟩ := T
  have hw1 := TA1.2.2.1.w
  have hw2 := u1.w
  have hw3 := u4.w
  have h4 := rd_A vb vc TA1 (by omega) hx
  obtain ⟨d1, d2, d3⟩ := u1.rd (L := L) (by omega) (by unfold dgP; omega)
  obtain ⟨e1, e2, e3⟩ := u4.rd (L := L) (by omega) (by unfold dgP; omega)
  have h5 := rs_bell vb h4 (by omega) (by omega) d1 d2 d3 hy.1 hy.2 (fun k hk => by
    obtain rfl : k = 0 := by omega
    exact n1) (ex' := 2) (pos' := 3 + w1 + w2) (mn' := 2) rfl rfl rfl
  have s1 : abI (wgt a x - wgt a y) = mxI 0 (abI ((sm (fwt a (uN1 (uN1 (fun _ => 0) 0 x) 1 y)) 1 - sm (fwt a (uN1 (uN1 (fun _ => 0) 0 x) 1 y)) 0) - (sm (fwt a (uN1 (uN1 (fun _ => 0) 0 x) 1 y)) 2 - sm (fwt a (uN1 (uN1 (fun _ => 0) 0 x) 1 y)) 1))) := by
    show _ = mxI 0 (abI ((0 + wgt a x - 0) - (0 + wgt a x + wgt a y - (0 + wgt a x))))
    rw [show (0 + wgt a x - 0) - (0 + wgt a x + wgt a y - (0 + wgt a x)) = wgt a x - wgt a y by omega]
    unfold mxI abI
    split <;> split <;> omega
  have h6 := rs_close (i0 := 1) vb h5 (by omega) (by omega) u2 (ex' := 1) (pos' := 4 + w1 + w2) (sl' := abI (wgt a x - wgt a y)) rfl (by omega) s1
  have h7 := rs_comma (i0 := 0) vb h6 (by omega) (by omega) u3 (pos' := 5 + w1 + w2) (by omega)
  have h8 := rs_bell vb h7 (by omega) (by omega) e1 e2 e3 hz.1 hz.2 (fun k hk => by
    have hk' : k = 0 ∨ k = 1 := by omega
    rcases hk' with rfl | rfl
    · exact n2
    · exact n3) (ex' := 2) (pos' := 5 + w1 + w2 + w3) (mn' := 3) rfl rfl rfl
  have s2 : mxI (abI (wgt a x - wgt a y)) (abI (wgt a x + wgt a y - wgt a z)) = mxI (abI (wgt a x - wgt a y)) (abI ((sm (fwt a (uN1 (uN1 (uN1 (fun _ => 0) 0 x) 1 y) 2 z)) 2 - sm (fwt a (uN1 (uN1 (uN1 (fun _ => 0) 0 x) 1 y) 2 z)) 0) - (sm (fwt a (uN1 (uN1 (uN1 (fun _ => 0) 0 x) 1 y) 2 z)) 3 - sm (fwt a (uN1 (uN1 (uN1 (fun _ => 0) 0 x) 1 y) 2 z)) 2))) := by
    show _ = mxI _ (abI ((0 + wgt a x + wgt a y - 0) - (0 + wgt a x + wgt a y + wgt a z - (0 + wgt a x + wgt a y))))
    rw [show (0 + wgt a x + wgt a y - 0) - (0 + wgt a x + wgt a y + wgt a z - (0 + wgt a x + wgt a y)) = wgt a x + wgt a y - wgt a z by omega]
  have h9 := rs_close (i0 := 0) vb h8 (by omega) (by omega) u5 (ex' := 3) (pos' := 6 + w1 + w2 + w3) rfl (by omega) s2
  exact ⟨_, _, _, _, _, by omega, ⟨rfl, rfl, rfl⟩, ⟨rfl, rfl, rfl⟩, rfl, h9⟩
/-- the whole text, read -/
theorem q_read (vb : VB k a n H L t) (vc : VC M a n H L t) (T : TB t w1 w2 w3 x y z) (hL : L = 6 + w1 + w2 + w3) (hx : hrB a x) (hy : hrB a y) (hz : hrB a z) (n1 : x ≠ y) (n2 : x ≠ z) (n3 : y ≠ z) : ∃ M1, f_X1_read M 0 (M 5 0) = some ((), M1) ∧ VC M1 a n H L t ∧ M1 10 2 = 0 ∧ M1 10 8 = iI 3 ∧ M1 10 9 = iI 2 ∧ M1 10 10 = iI 2 ∧ M1 10 11 = iI (mxI (abI (wgt a x - wgt a y)) (abI (wgt a x + wgt a y - wgt a z))) ∧ M1 75 0 = iI (wgt a x + wgt a y + wgt a z) ∧ ∃ V : Int, M1 75 1 = iI V ∧ V % 4 = 0 ∧ 4 * wgt a x ≤ V ∧ 4 * wgt a y ≤ V ∧ 2 * wgt a z ≤ V ∧ V ≤ 40000 := by
  obtain ⟨hb, dp, c, bc, f, hf, hbs, dps, c0, h⟩ := rd_B vb vc T (by omega) hx hy hz n1 n2 n3
  rw [← hL] at h
  obtain ⟨M1, e, v, q2, hc⟩ := rs_end vb h hf
  rw [if_pos rfl] at q2
  obtain ⟨⟨h1, h2, h3, h4, h5, h6⟩, -, -, h9, -⟩ := hc
  obtain ⟨l1, V, D, l2, l3, l4⟩ := h9 (by omega)
  rw [c0] at l1 l4
  have hwt : ∀ k, 0 ≤ k → k < 3 → 0 ≤ wgt a (hb k) ∧ wgt a (hb k) ≤ 10000 := fun k _ hk => by
    have hh : hrB a (hb k) := by
      have hk' : k = 0 ∨ k = 1 ∨ k = 2 := by omega
      rcases hk' with rfl | rfl | rfl
      · rw [hbs.1]; exact hx
      · rw [hbs.2.1]; exact hy
      · rw [hbs.2.2]; exact hz
    have B := vb.1.2.2.2.1 (hb k) hh.1
    unfold BB at B
    show 0 ≤ a (54 + 8 * hb k) + a (55 + 8 * hb k) ∧ a (54 + 8 * hb k) + a (55 + 8 * hb k) ≤ 10000
    omega
  have lb := LVL_b l4 hwt
  obtain ⟨m1, m2, ⟨q, q1, q3, q4⟩, m4, m5⟩ := l4
  have hD : D = 2 := by
    have a0 := (m2 0 (by omega) (by omega)).2.1
    have hq : q = 0 ∨ q = 1 ∨ q = 2 := by omega
    rcases hq with rfl | rfl | rfl <;> omega
  subst hD
  have v0 := (m2 0 (by omega) (by omega)).2.2
  have v1 := (m2 1 (by omega) (by omega)).2.2
  have v2 := (m2 2 (by omega) (by omega)).2.2
  unfold vl at v0 v1 v2
  rw [dps.1, hbs.1] at v0
  rw [dps.2.1, hbs.2.1] at v1
  rw [dps.2.2, hbs.2.2] at v2
  have p4 : (2 : Int) ^ 2 = 4 := rfl
  have p4' : (2 : Int) ^ (2 - 0) = 4 := rfl
  have p2' : (2 : Int) ^ (1 - 0) = 2 := rfl
  rw [p4'] at v0 v1
  rw [p2'] at v2
  rw [p4] at m4 lb
  refine ⟨M1, by rw [vc.2.2.1]; exact e, v, q2, h3, h4, h5, h6, ?_, V, l2, m4, by omega, by omega, by omega, by omega⟩
  have e0 : M1 75 0 = iI (sm (fwt a hb) 3 - sm (fwt a hb) 0) := l1
  rw [e0]
  refine congrArg iI ?_
  show 0 + wgt a (hb 0) + wgt a (hb 1) + wgt a (hb 2) - 0 = _
  rw [hbs.1, hbs.2.1, hbs.2.2]
  omega
theorem q_f0 (vb : VB k a n H L t) (vc : VC M a n H L t) (T : TB t w1 w2 w3 x y z) (hL : L = 6 + w1 + w2 + w3) (hx : hrB a x) (hy : hrB a y) (hz : hrB a z) (n1 : x ≠ y) (n2 : x ≠ z) (n3 : y ≠ z) : ∃ M1, VC M1 a n H L t ∧ f_X10_fault M 0 = some (-4, M1) ∧ f_X10_frame M 0 = some (iI (wgt a x + wgt a y + wgt a z), M1) ∧ f_X10_frame M 1 = some (3, M1) ∧ f_X10_frame M 2 = some (2, M1) ∧ f_X10_frame M 3 = some (2, M1) ∧ f_X10_frame M 4 = some (iI (mxI (abI (wgt a x - wgt a y)) (abI (wgt a x + wgt a y - wgt a z))), M1) ∧ ∃ V : Int, f_X10_frame M 5 = some (iI (V - (wgt a x + wgt a y + wgt a z)), M1) ∧ V % 4 = 0 ∧ 4 * wgt a x ≤ V ∧ 4 * wgt a y ≤ V ∧ 2 * wgt a z ≤ V ∧ V ≤ 40000 := by
  obtain ⟨M1, e, v, m2, m8, m9, m10, m11, m0, V, mV, v1, v2, v3, v4, v5⟩ := q_read vb vc T hL hx hy hz n1 n2 n3
  have fr : ∀ (X : Int) (r : Int32), 0 ≤ X ∧ X ≤ 5 → f_X1_tell M1 (iI X) = some (r, M1) → f_X10_frame M (iI X) = some (r, M1) := fun X r hX ht => by
    unfold f_X10_frame
    rw [e_inL 0 5 (by omega) Z0 Z5 (by omega) (by omega), bnd2_s, ify hX, e, bnd2_s, if_pos m2, ht, bnd2_s]
  refine ⟨M1, v, ?_, fr 0 _ (by omega) ?_, fr 1 _ (by omega) ?_, fr 2 _ (by omega) ?_, fr 3 _ (by omega) ?_, fr 4 _ (by omega) ?_, V, fr 5 _ (by omega) ?_, v1, v2, v3, v4, v5⟩
  · unfold f_X10_fault
    rw [show f_X10_isIn M 0 0 1 = _ from e_inL (x := 0) 0 1 (by omega) Z0 Z1 (by omega) (by omega), bnd2_s, ify (by omega), e, bnd2_s, if_pos m2]
  · show some (M1 75 0, M1) = _
    rw [m0]
  · show some (M1 10 8, M1) = _
    rw [m8]; rfl
  · show some (M1 10 9, M1) = _
    rw [m9]; rfl
  · show some (M1 10 10, M1) = _
    rw [m10]; rfl
  · show some (M1 10 11, M1) = _
    rw [m11]
  · show some (M1 75 1 - M1 75 0, M1) = _
    rw [mV, m0, iI_sub]
/-- the text cut off, and the text with one sign more -/
theorem q_fA (vb : VB k a n H L t) (vc : VC M a n H L t) (T : TA t w1 x) (hL : L = 3 + w1) (hx : hrB a x) : ∃ M1, f_X10_fault M 1 = some (4, M1) ∧ VC M1 a n H L t := by
  have hfu : 0 < FU - 1 - 1 - 1 - 1 := by unfold FU; omega
  have h := rd_A vb vc T (by omega) hx
  rw [← hL] at h
  obtain ⟨M1, e, v, q2, -⟩ := rs_end vb h hfu
  rw [if_neg (by omega)] at q2
  refine ⟨M1, ?_, v⟩
  unfold f_X10_fault
  rw [show f_X10_isIn M 1 0 1 = _ from e_inL (x := 1) 0 1 (by omega) Z0 Z1 (by omega) (by omega), bnd2_s, ify (by omega), vc.2.2.1, e, bnd2_s, q2, if_neg (by decide), if_neg (by decide)]
theorem q_fC (vb : VB k a n H L t) (vc : VC M a n H L t) (T : TB t w1 w2 w3 x y z) (hL : L = 7 + w1 + w2 + w3) (h44 : t (6 + w1 + w2 + w3) = 44) (hx : hrB a x) (hy : hrB a y) (hz : hrB a z) (n1 : x ≠ y) (n2 : x ≠ z) (n3 : y ≠ z) : ∃ M1, f_X10_fault M 1 = some (1, M1) ∧ f_X10_fault M 0 = some (iI ((6 + w1 + w2 + w3 : Nat) : Int), M1) ∧ VC M1 a n H L t := by
  obtain ⟨hb, dp, c, bc, f, hf, hbs, dps, c0, h⟩ := rd_B vb vc T (by omega) hx hy hz n1 n2 n3
  obtain ⟨M1, e, v, q2, q1⟩ := rs_more vb h hf (by omega) h44
  refine ⟨M1, ?_, ?_, v⟩
  · unfold f_X10_fault
    rw [show f_X10_isIn M 1 0 1 = _ from e_inL (x := 1) 0 1 (by omega) Z0 Z1 (by omega) (by omega), bnd2_s, ify (by omega), vc.2.2.1, e, bnd2_s, q2, if_neg (by decide), if_neg (by decide)]
  · unfold f_X10_fault
    rw [show f_X10_isIn M 0 0 1 = _ from e_inL (x := 0) 0 1 (by omega) Z0 Z1 (by omega) (by omega), bnd2_s, ify (by omega), vc.2.2.1, e, bnd2_s, q2, if_neg (by decide), if_pos rfl, q1]
end RDT
