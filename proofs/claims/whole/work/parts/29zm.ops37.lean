section
/-! Frames: both read a text. -/
def fFin (M1 N1 : MM) (a : Nat → Int) (L : Nat) (rr : Int32) : Prop := (rr = 0 ∧ M1 10 2 ≠ 0 ∧ M1 10 1 = N1 20 18 ∧ M1 10 2 = N1 20 19) ∨ (rr = 1 ∧ M1 10 2 = 0 ∧ ∃ (mn bm ds : Nat) (sl : Int) (hb dp c bc : Nat → Nat), fgI a 3 L 0 mn bm ds sl hb dp c bc ∧ fcI M1 a 3 0 mn bm ds sl hb dp c bc ∧ frI N1 a 3 L 0 mn bm ds sl hb dp c bc)
def fREF (ex f f2 : Nat) (N : MM) : Option (Int32 × MM) := if ex = 0 then lp_X11_reads_37 f N 1 else fRC f f2 N
theorem fCT_stop {f L nx : Nat} {r : Int32} {M : MM} (hr : r ≠ 0) : fCT f L r nx M = some ((), up2 M 10 2 r) := by
  unfold fCT
  rw [letB_e, up2_eq, if_neg hr]
theorem fCT_go {f L nx : Nat} {M : MM} : fCT f L 0 nx M = lp_X1_read_7 f (up2 M 10 2 0) 0 (iI L) (iI nx) := by
  unfold fCT
  rw [letB_e, up2_eq, if_pos rfl]
theorem fFin_err {M N : MM} {a : Nat → Int} {L pos : Nat} {r : Int32} (hr : r ≠ 0) (h18 : N 20 18 = iI pos) : fFin (up2 (up2 M 10 1 (iI pos)) 10 2 r) (up2 N 20 19 r) a L 0 := by
  refine Or.inl ⟨rfl, by rw [up2_eq]; exact hr, ?_, by rw [up2_eq, up2_eq]⟩
  rw [up2_in _ (by omega), up2_eq, up2_in _ (by omega), h18]
theorem fTX_of {N : MM} {a : Nat → Int} {n : Nat} {H : Nat → Nat → Int} {L : Nat} {t : Nat → Int} (h : VR N a n H L t) : fTX N L t := ⟨h.2.2.2.1, h.2.2.2.2⟩
theorem r_bad {N : MM} {a : Nat → Int} {L pos ex op mn bm ds : Nat} {sl : Int} {t : Nat → Int} {hb dp c bc : Nat → Nat} (hL : L ≤ 60) (h : fTX N L t) (ht : ∀ i, i < L → 32 ≤ t i ∧ t i ≤ 126) (hp : pos < L) (hr : frI N a ex pos op mn bm ds sl hb dp c bc) (g : fgI a ex pos op mn bm ds sl hb dp c bc) (c0 : ex = 0 → ¬ dgP t pos ∧ ¬ (t pos = 40 ∧ op < 5)) (c1 : ex = 1 → t pos ≠ 44) (c2 : ex = 2 → t pos ≠ 41) (f f2 : Nat) : fREF ex (f + 1) (f2 + 1) N = some (0, up2 N 20 19 1) := by
  obtain ⟨⟨h1, h2, h3, h4, h5, h6⟩, h7, h8, h9⟩ := hr
  obtain ⟨⟨g1, g2, g3, g4, g5, g6, g7, g8⟩, -, -, -, g12, -, g14, g15, g16⟩ := g
  unfold fREF
  by_cases e0 : ex = 0
  · rw [if_pos e0]
    exact r_reads_bad hL h ht hp (c0 e0).1 h1 h6 g1 (c0 e0).2 f
  · rw [if_neg e0]
    by_cases e3 : ex = 3
    · have := g16 e3
      subst this
      exact r_rest_more hL h hp h1 h6 (f + 1) f2
    · have hop : 1 ≤ op := by
        by_cases e1 : ex = 1
        · exact (g14 e1).1
        · exact (g15 (by omega)).1
      obtain ⟨i0, rfl⟩ : ∃ i0, op = i0 + 1 := ⟨op - 1, by omega⟩
      refine r_rest_bad hL h ht hp h1 h6 (by omega) (h8 i0 (by omega)).1 (g12 i0 (by omega)).1 ⟨fun q => ?_, fun q => ?_⟩ (f + 1) f2
      · by_cases e1 : ex = 1
        · exact c1 e1
        · have := (g15 (by omega)).2
          rw [Nat.add_sub_cancel] at this
          omega
      · by_cases e2 : ex = 2
        · exact c2 e2
        · have := (g14 (by omega)).2
          rw [Nat.add_sub_cancel] at this
          omega
theorem c_bell_no {k : Int} {M : MM} {a : Nat → Int} (R : RA (M 0) (M 40) (M 50) a) (h0 : 0 ≤ a 52) (hB : ∀ b, b < (a 52).toNat → BB k a b) (hx : M 10 0 = iI ((0 : Nat) : Int)) {b : Nat} (hb : b ≤ 99) (hno : ¬ (b < (a 52).toNat ∧ a (60 + 8 * b) < 2)) : f_X1_readBell M 0 (iI b) = some (2, M) := by
  unfold f_X1_readBell optE
  rw [hx, if_pos (by rfl)]
  by_cases c : b < (a 52).toNat
  · have b6 := (hB b c).2.2.2.2.2.1
    rw [bellAt_some R c, bnd2_s]
    simp only
    rw [c_remains R c b6, bnd2_s, ifn (fun q => hno ⟨c, q⟩)]
  · rw [bellAt_none R h0 (by omega) (by omega), bnd2_s]
theorem c_bell_hung {k : Int} {M : MM} {a : Nat → Int} (R : RA (M 0) (M 40) (M 50) a) (hB : ∀ b, b < (a 52).toNat → BB k a b) (hx : M 10 0 = iI ((0 : Nat) : Int)) {b : Nat} (hb1 : b < (a 52).toNat) (hb2 : a (60 + 8 * b) < 2) (h13 : M 13 b ≠ 0) : f_X1_readBell M 0 (iI b) = some (3, M) := by
  have hcb := R.cb
  have b6 := (hB b hb1).2.2.2.2.2.1
  unfold f_X1_readBell optE
  rw [hx, if_pos (by rfl), bellAt_some R hb1, bnd2_s]
  simp only
  rw [c_remains R hb1 b6, bnd2_s, ify hb2, if_pos (vinI (by omega) (by omega))]
  have e : (iI (b : Int)).toNatClampNeg = b := iI_lo (by omega)
  simp only [e]
  rw [if_neg h13]
theorem c_bell_ex {M : MM} {ex : Nat} (hx : M 10 0 = iI ex) (h3 : ex ≤ 3) (h0 : ex ≠ 0) (x : Int32) : f_X1_readBell M 0 x = some (1, M) := by
  unfold f_X1_readBell
  rw [hx, if_neg (by rw [Z0, iI_inj (by omega) (by omega)]; omega)]
theorem c_sign_bad {M : MM} {ex op : Nat} {x : Int} (hx : M 10 0 = iI ex) (h3 : ex ≤ 3) (h6 : M 10 6 = iI op) (h5 : op ≤ 5) (c0 : x = 40 → ¬ (ex = 0 ∧ op < 5)) (c1 : x = 44 → ex ≠ 1) (c2 : x = 41 → ex ≠ 2) : fSG M x = some (1, M) := by
  unfold fSG
  by_cases e1 : x = 40
  · rw [if_pos e1]
    unfold f_X1_openBeam
    rw [hx]
    by_cases q : ex = 0
    · rw [if_pos (by rw [q]; rfl), h6, if_neg (by rw [Z5, iI_lt (by omega) (by omega)]; have := c0 e1; omega)]
    · rw [if_neg (by rw [Z0, iI_inj (by omega) (by omega)]; omega)]
  · rw [if_neg e1]
    by_cases e2 : x = 44
    · rw [if_pos e2]
      unfold f_X1_passComma
      rw [hx, if_neg (by rw [Z1, iI_inj (by omega) (by omega)]; have := c1 e2; omega)]
    · rw [if_neg e2]
      by_cases e3 : x = 41
      · rw [if_pos e3]
        unfold f_X1_closeBeam
        rw [hx, if_neg (by rw [Z2, iI_inj (by omega) (by omega)]; have := c2 e3; omega)]
      · rw [if_neg e3]
theorem l_read {k : Int} {a : Nat → Int} {n : Nat} {H : Nat → Nat → Int} {L : Nat} {t : Nat → Int} (vb : VB k a n H L t) : ∀ (j pos : Nat), pos + j = L → ∀ (M : MM) (ex op mn bm ds : Nat) (sl : Int) (hb dp c bc : Nat → Nat) (fu : Nat), VC M a n H L t → fcI M a ex op mn bm ds sl hb dp c bc → fgI a ex pos op mn bm ds sl hb dp c bc → j < fu → ∃ M1, lp_X1_read_7 fu M 0 (iI L) (iI pos) = some ((), M1) ∧ CFr M M1 ∧ ∀ (N : MM) (f f2 : Nat), VR N a n H L t → frI N a ex pos op mn bm ds sl hb dp c bc → j + 1 < f → j + 1 < f2 → ∃ rr N1, fREF ex f f2 N = some (rr, N1) ∧ RFr N N1 ∧ fFin M1 N1 a L rr := by
  have hM := vb.1.1
  unfold BM at hM
  have hB := vb.1.2.2.2.1
  obtain ⟨hL, ht⟩ := vb.2.2.2
  intro j
  induction j using Nat.strongRecOn with
  | ind j ih =>
    intro pos hpos M ex op mn bm ds sl hb dp c bc fu vc hc g hf
    obtain ⟨fu, rfl⟩ : ∃ fu', fu = fu' + 1 := ⟨fu - 1, by omega⟩
    have hop : op ≤ 5 := g.1.1
    have hex : ex ≤ 3 := g.1.2.2.2.1
    by_cases ej : pos = L
    · -- the end of the text
      subst ej
      refine ⟨_, l_end hL hex hc.1.1 fu, ((CFr.refl M).up _ (by omega)).up _ (by omega), fun N f f2 vr hr hf1 hf2 => ?_⟩
      obtain ⟨f, rfl⟩ : ∃ f', f = f' + 1 := ⟨f - 1, by omega⟩
      obtain ⟨f2, rfl⟩ : ∃ f', f2 = f' + 1 := ⟨f2 - 1, by omega⟩
      have hTX := fTX_of vr
      by_cases e3 : ex = 3
      · subst e3
        have hop0 : op = 0 := g.2.2.2.2.2.2.2.2 rfl
        subst hop0
        refine ⟨1, N, ?_, RFr.refl N, Or.inr ⟨rfl, by rw [up2_eq, if_pos rfl], mn, bm, ds, sl, hb, dp, c, bc, g, (hc.pr _ (by omega) (by omega)).pr _ (by omega) (by omega), hr⟩⟩
        unfold fREF
        rw [if_neg (by omega)]
        exact r_rest_done hTX hr.1.1 hr.1.2.2.2.2.2 f f2
      · rw [if_neg e3]
        refine ⟨0, up2 N 20 19 4, ?_, (RFr.refl N).up _ (by omega), fFin_err (by decide) hr.1.1⟩
        unfold fREF
        by_cases e0 : ex = 0
        · rw [if_pos e0]
          exact r_reads_end hTX hr.1.1 f
        · rw [if_neg e0]
          have hop1 : 1 ≤ op := by
            by_cases e1 : ex = 1
            · exact (g.2.2.2.2.2.2.1 e1).1
            · exact (g.2.2.2.2.2.2.2.1 (by omega)).1
          obtain ⟨i0, rfl⟩ : ∃ i0, op = i0 + 1 := ⟨op - 1, by omega⟩
          exact r_rest_end (b := 0) hL hTX hr.1.1 hr.1.2.2.2.2.2 (by omega) (f + 1) f2
    · have hp : pos < L := by omega
      have htp := ht pos hp
      obtain ⟨Mp, hMp⟩ : ∃ Mp, Mp = up2 M 10 1 (iI pos) := ⟨_, rfl⟩
      have fp : CFr M Mp := by rw [hMp]; exact (CFr.refl M).up _ (by omega)
      have vp := vc.cfr fp
      have hcp : fcI Mp a ex op mn bm ds sl hb dp c bc := by rw [hMp]; exact hc.pr _ (by omega) hop
      have R := vp.1
      have step := l_step (M := M) hL hp vc.2.2.2 ht fu
      rw [← hMp] at step
      -- what is refused
      have bad : (lp_X1_read_7 (fu + 1) M 0 (iI L) (iI pos) = some ((), up2 Mp 10 2 1)) → (ex = 0 → ¬ dgP t pos ∧ ¬ (t pos = 40 ∧ op < 5)) → (ex = 1 → t pos ≠ 44) → (ex = 2 → t pos ≠ 41) → ∃ M1, lp_X1_read_7 (fu + 1) M 0 (iI L) (iI pos) = some ((), M1) ∧ CFr M M1 ∧ ∀ (N : MM) (f f2 : Nat), VR N a n H L t → frI N a ex pos op mn bm ds sl hb dp c bc → j + 1 < f → j + 1 < f2 → ∃ rr N1, fREF ex f f2 N = some (rr, N1) ∧ RFr N N1 ∧ fFin M1 N1 a L rr := by
        intro hcl k0 k1 k2
        refine ⟨_, hcl, fp.up _ (by omega), fun N f f2 vr hr hf1 hf2 => ?_⟩
        obtain ⟨f, rfl⟩ : ∃ f', f = f' + 1 := ⟨f - 1, by omega⟩
        obtain ⟨f2, rfl⟩ : ∃ f', f2 = f' + 1 := ⟨f2 - 1, by omega⟩
        exact ⟨0, up2 N 20 19 1, r_bad hL (fTX_of vr) ht hp hr g k0 k1 k2 f f2, (RFr.refl N).up _ (by omega), by rw [hMp]; exact fFin_err (by decide) hr.1.1⟩
      by_cases d : dgP t pos
      · rw [if_pos d] at step
        have hnu := nu_b (L := L) d
        obtain ⟨b, hb0⟩ : ∃ b : Nat, nuI t L pos = b := ⟨(nuI t L pos).toNat, by omega⟩
        have hwd : 1 ≤ wdN t L pos ∧ wdN t L pos ≤ 2 ∧ pos + wdN t L pos ≤ L := by
          unfold wdN
          by_cases q : twP t L pos
          · rw [if_pos q]; have := q.1; omega
          · rw [if_neg q]; omega
        rw [hb0] at step
        by_cases e0 : ex = 0
        · subst e0
          by_cases ok : b < (a 52).toNat ∧ a (60 + 8 * b) < 2
          · by_cases hg : ∀ k, k < mn → hb k ≠ b
            · obtain ⟨M1, k1, f1, hc1⟩ := c_bell R hB hcp g (by omega) ok.1 ok.2 hg
              rw [k1, bnd2_s, fCT_go] at step
              have g1 := g_bell (pos' := pos + wdN t L pos) g ok.1 ok.2 (by omega)
              have f2' : CFr M1 (up2 M1 10 2 0) := (CFr.refl M1).up _ (by omega)
              obtain ⟨M2, k2, f2, cont⟩ := ih (j - wdN t L pos) (by omega) (pos + wdN t L pos) (by omega) (up2 M1 10 2 0) _ op (mn + 1) bm ds sl _ _ c bc fu ((vp.cfr f1).cfr f2') (hc1.pr _ (by omega) hop) g1 (by omega)
              refine ⟨M2, step.trans k2, ((fp.trans f1).trans f2').trans f2, fun N f f2 vr hr hf1 hf2 => ?_⟩
              obtain ⟨f, rfl⟩ : ∃ f', f = f' + 1 := ⟨f - 1, by omega⟩
              have hb1 := r_bell_ok vr.1 (by omega) hB hr g (by omega) hb0 ok.1 ok.2 hg
              obtain ⟨q1, q2⟩ := fr_bell (wd := wdN t L pos) hr g (b := b)
              obtain ⟨rr, N2, e1, e2, e3⟩ := cont _ f FU (vr.rfr q2) q1 (by omega) (by unfold FU; omega)
              refine ⟨rr, N2, ?_, q2.trans e2, e3⟩
              unfold fREF at e1 ⊢
              rw [if_neg (exN_3 op bc).2] at e1
              rw [if_pos rfl, r_reads_bell hL (fTX_of vr) ht hp d hr.1.1, hb1, bnd2_s, if_neg (by decide)]
              exact e1
            · have hh : ∃ k, k < mn ∧ hb k = b := by
                by_cases q : ∃ k, k < mn ∧ hb k = b
                · exact q
                · exact absurd (fun k hk e => q ⟨k, hk, e⟩) hg
              have h13 : Mp 13 b ≠ 0 := fun q => hg ((hcp.2.2.2.2 b (by omega)).mp q)
              rw [c_bell_hung R hB hcp.1.1 ok.1 ok.2 h13, bnd2_s, fCT_stop (by decide)] at step
              refine ⟨_, step, fp.up _ (by omega), fun N f f2 vr hr hf1 hf2 => ?_⟩
              obtain ⟨f, rfl⟩ : ∃ f', f = f' + 1 := ⟨f - 1, by omega⟩
              refine ⟨0, up2 N 20 19 3, ?_, (RFr.refl N).up _ (by omega), by rw [hMp]; exact fFin_err (by decide) hr.1.1⟩
              unfold fREF
              rw [if_pos rfl, r_reads_bell hL (fTX_of vr) ht hp d hr.1.1, r_bell_hung vr.1 (by omega) hB hr g (by omega) hb0 ok.1 ok.2 hh, bnd2_s, if_pos rfl]
          · rw [c_bell_no R (by omega) hB hcp.1.1 (by omega) ok, bnd2_s, fCT_stop (by decide)] at step
            refine ⟨_, step, fp.up _ (by omega), fun N f f2 vr hr hf1 hf2 => ?_⟩
            obtain ⟨f, rfl⟩ : ∃ f', f = f' + 1 := ⟨f - 1, by omega⟩
            refine ⟨0, up2 N 20 19 2, ?_, (RFr.refl N).up _ (by omega), by rw [hMp]; exact fFin_err (by decide) hr.1.1⟩
            unfold fREF
            rw [if_pos rfl, r_reads_bell hL (fTX_of vr) ht hp d hr.1.1, r_bell_no vr.1 (by omega) hB hb0 (by omega) ok, bnd2_s, if_pos rfl]
        · rw [c_bell_ex hcp.1.1 hex e0, bnd2_s, fCT_stop (by decide)] at step
          unfold dgP at d
          exact bad step (fun q => absurd q e0) (fun _ => by omega) (fun _ => by omega)
      · rw [if_neg d] at step
        by_cases o : t pos = 40 ∧ ex = 0 ∧ op < 5
        · obtain ⟨o1, rfl, o3⟩ := o
          obtain ⟨M1, k1, f1, hc1⟩ := c_open hcp g (by omega) o3
          have es : fSG Mp (t pos) = some (0, M1) := by unfold fSG; rw [if_pos o1]; exact k1
          rw [es, bnd2_s, fCT_go] at step
          have g1 := g_open g o3
          have f2' : CFr M1 (up2 M1 10 2 0) := (CFr.refl M1).up _ (by omega)
          obtain ⟨M2, k2, f2, cont⟩ := ih (j - 1) (by omega) (pos + 1) (by omega) (up2 M1 10 2 0) 0 (op + 1) mn (bm + 1) _ sl hb dp _ _ fu ((vp.cfr f1).cfr f2') (hc1.pr _ (by omega) (by omega)) g1 (by omega)
          refine ⟨M2, step.trans k2, ((fp.trans f1).trans f2').trans f2, fun N f f2 vr hr hf1 hf2 => ?_⟩
          obtain ⟨f, rfl⟩ : ∃ f', f = f' + 1 := ⟨f - 1, by omega⟩
          obtain ⟨N1, q0, q2, q1⟩ := r_reads_open hL (fTX_of vr) hp o1 hr g o3 f
          obtain ⟨rr, N2, e1, e2, e3⟩ := cont _ f f2 (vr.rfr q2) q1 (by omega) (by omega)
          refine ⟨rr, N2, ?_, q2.trans e2, e3⟩
          unfold fREF at e1 ⊢
          rw [if_pos rfl] at e1 ⊢
          rw [q0]
          exact e1
        · by_cases o2 : t pos = 44 ∧ ex = 1
          · obtain ⟨o1, rfl⟩ := o2
            have hop1 := (g.2.2.2.2.2.2.1 rfl).1
            obtain ⟨i0, rfl⟩ : ∃ i0, op = i0 + 1 := ⟨op - 1, by omega⟩
            obtain ⟨M1, k1, f1, hc1⟩ := c_comma hcp g
            have es : fSG Mp (t pos) = some (0, M1) := by unfold fSG; rw [if_neg (by omega), if_pos o1]; exact k1
            rw [es, bnd2_s, fCT_go] at step
            have g1 := g_comma g
            have f2' : CFr M1 (up2 M1 10 2 0) := (CFr.refl M1).up _ (by omega)
            obtain ⟨M2, k2, f2, cont⟩ := ih (j - 1) (by omega) (pos + 1) (by omega) (up2 M1 10 2 0) 0 (i0 + 1) mn bm ds sl hb dp _ _ fu ((vp.cfr f1).cfr f2') (hc1.pr _ (by omega) (by omega)) g1 (by omega)
            refine ⟨M2, step.trans k2, ((fp.trans f1).trans f2').trans f2, fun N f f2 vr hr hf1 hf2 => ?_⟩
            obtain ⟨f2, rfl⟩ : ∃ f', f2 = f' + 1 := ⟨f2 - 1, by omega⟩
            obtain ⟨N1, q0, q2, q1⟩ := r_rest_comma hL (fTX_of vr) hp o1 hr g f f2
            obtain ⟨rr, N2, e1, e2, e3⟩ := cont _ f f2 (vr.rfr q2) q1 (by omega) (by omega)
            refine ⟨rr, N2, ?_, q2.trans e2, e3⟩
            unfold fREF at e1 ⊢
            rw [if_pos rfl] at e1
            rw [if_neg (by omega), q0]
            exact e1
          · by_cases o4 : t pos = 41 ∧ ex = 2
            · obtain ⟨o1, rfl⟩ := o4
              have hop1 := (g.2.2.2.2.2.2.2.1 rfl).1
              obtain ⟨i0, rfl⟩ : ∃ i0, op = i0 + 1 := ⟨op - 1, by omega⟩
              obtain ⟨M1, k1, f1, hc1, hF, hW⟩ := c_close hB hcp g (by omega)
              have es : fSG Mp (t pos) = some (0, M1) := by unfold fSG; rw [if_neg (by omega), if_neg (by omega), if_pos o1]; exact k1
              rw [es, bnd2_s, fCT_go] at step
              have hsl := sl_b (sl := sl) ⟨g.1.2.2.2.2.2.1, g.1.2.2.2.2.2.2.1⟩ hF hW
              have g1 := g_close g hsl
              have f2' : CFr M1 (up2 M1 10 2 0) := (CFr.refl M1).up _ (by omega)
              obtain ⟨M2, k2, f2, cont⟩ := ih (j - 1) (by omega) (pos + 1) (by omega) (up2 M1 10 2 0) _ i0 mn bm ds _ hb dp c bc fu ((vp.cfr f1).cfr f2') (hc1.pr _ (by omega) (by omega)) g1 (by omega)
              refine ⟨M2, step.trans k2, ((fp.trans f1).trans f2').trans f2, fun N f f2 vr hr hf1 hf2 => ?_⟩
              obtain ⟨f2, rfl⟩ : ∃ f', f2 = f' + 1 := ⟨f2 - 1, by omega⟩
              obtain ⟨N1, q0, q2, q1⟩ := r_rest_close hL (fTX_of vr) hp o1 hr g hF hW f f2
              obtain ⟨rr, N2, e1, e2, e3⟩ := cont _ f f2 (vr.rfr q2) (q1 _) (by omega) (by omega)
              refine ⟨rr, N2, ?_, q2.trans e2, e3⟩
              unfold fREF at e1 ⊢
              rw [if_neg (exN_3 i0 bc).2] at e1
              rw [if_neg (by omega), q0]
              exact e1
            · have es := c_sign_bad (M := Mp) (x := t pos) hcp.1.1 hex hcp.1.2.1 hop (fun q q2 => o ⟨q, q2.1, q2.2⟩) (fun q q2 => o2 ⟨q, q2⟩) (fun q q2 => o4 ⟨q, q2⟩)
              rw [es, bnd2_s, fCT_stop (by decide)] at step
              exact bad step (fun q => ⟨d, fun q2 => o ⟨q2.1, q, q2.2⟩⟩) (fun q q2 => o2 ⟨q2, q⟩) (fun q q2 => o4 ⟨q2, q⟩)
end
