section
/-! The call tune. -/
theorem r_wouldCrack' {M : MM} {x : Nat → Int} {j : Nat} {n d p w : Int} (h : j < 100) (hn : 0 ≤ n) (hn2 : n ≤ 1000) (e5 : x (59 + 8 * j) = d) (e2 : x (56 + 8 * j) = p) (e4 : x (58 + 8 * j) = w) (hd : 0 ≤ d ∧ d ≤ 20000000) (hpf : 0 ≤ p ∧ p ≤ 3) (hpo : 1 ≤ w ∧ w ≤ 10000) : f_X11_wouldCrack (RF M x) (iI j) (iI n) = some (dI (crk d n p w), RF M x) := by
  subst e5 e2 e4
  exact r_wouldCrack h hn hn2 hd hpf hpo
theorem o_tune {k : Int} (hk : k ≤ 1000) (x y : Int32) : CALL k (fun M => f_X10_tune M x y) (fun M => f_X11_tune M x y) := by
  apply both
  intro M a n H L t vc vb
  obtain ⟨X, hX, rfl⟩ := ofI x
  obtain ⟨Y, hY, rfl⟩ := ofI y
  have R := vc.1
  have hM := vb.1.1
  unfold BM at hM
  have hS := vb.1.2.1
  by_cases hx : 0 ≤ X ∧ X ≤ a 52 - 1
  · obtain ⟨b, rfl⟩ : ∃ j : Nat, X = j := ⟨X.toNat, by omega⟩
    have hb : b < (a 52).toNat := by omega
    have Bb := vb.1.2.2.2.1 b hb
    have Bb' := Bb
    obtain ⟨b1, b2, b3, b4, b5, b6, b7, b8, b9⟩ := Bb
    by_cases hy : 1 ≤ Y ∧ Y ≤ 1000
    · by_cases c : a (60 + 8 * b) = 0
      · by_cases d : Y < a (54 + 8 * b) + a (55 + 8 * b)
        · have hl := low_b (pi := a (57 + 8 * b)) (tu := a 50) (n := Y) (w := a (54 + 8 * b) + a (55 + 8 * b)) b3 (by unfold BS at hS; omega) (by omega) (by omega)
          obtain ⟨pi, hpi⟩ : ∃ pi, pi = low (a (57 + 8 * b)) (a 50) Y (a (54 + 8 * b) + a (55 + 8 * b)) := ⟨_, rfl⟩
          obtain ⟨st, hst⟩ : ∃ st : Int, st = if crk (a (59 + 8 * b)) Y (a (56 + 8 * b)) (a (58 + 8 * b)) then 1 else 0 := ⟨_, rfl⟩
          have hst2 : 0 ≤ st ∧ st ≤ 1 := by rw [hst]; split <;> omega
          rw [← hpi] at hl
          obtain ⟨f, hf⟩ : ∃ f, f = tuA a b pi st (a (59 + 8 * b) + Y) := ⟨_, rfl⟩
          have f0 : f (54 + 8 * b) = a (54 + 8 * b) := by rw [hf, tuA_n (by omega) (by omega) (by omega)]
          have f1 : f (54 + 8 * b + 1) = a (55 + 8 * b) := by rw [hf, tuA_n (by omega) (by omega) (by omega), show 54 + 8 * b + 1 = 55 + 8 * b by omega]
          have f8 : f 8 = a 8 := by rw [hf, tuA_n (by omega) (by omega) (by omega)]
          have f52 : f 52 = a 52 := by rw [hf, tuA_n (by omega) (by omega) (by omega)]
          have fin3 : dsc f (54 + 8 * b) Y 1 (57 + 8 * b) = pi := by rw [dsc_n (by omega) (by omega) (by omega) (by omega) (by omega), hf, tuA_3]
          have fin52 : dsc f (54 + 8 * b) Y 1 52 = a 52 := by rw [dsc_n (by omega) (by omega) (by omega) (by omega) (by omega), f52]
          have hBd := Bd_tu (n := Y) vb.1 hb c hst2 hl (by omega) (by omega) d
          rw [← hf] at hBd
          refine ⟨iI pi, dsc f (54 + 8 * b) Y 1, pN n, pH n H a, L, t, vb.push (by omega) hBd, ?_, fun M1 vr => ?_⟩
          · obtain ⟨M1, k1, v1, g1⟩ := c_keep' vc vb
            obtain ⟨M2, k2, w2⟩ := c_shave hk v1.1 (by omega) hb Bb' hS c hy.1 hy.2 d
            rw [← hpi, ← hst, ← hf] at w2
            refine OPC.go v1 g1.FC (M2 := M2) ?_ w2
            unfold f_X10_tune optE
            rw [bellAt_some R hb, bnd2_s]
            simp only
            rw [e_inL 1 1000 hY Z1 Z1000 (by omega) (by omega), bnd2_s, ify hy, R.b6 hb, if_pos (by rw [c]; rfl), e_weight, bnd2_s, R.b0 hb, R.b1 hb, iI_add, if_pos (by rw [iI_lt (by omega) (by omega)]; exact d), k1, bnd2_s, k2, bnd2_s, w2.1.b3 (by rw [fin52]; exact hb), fin3]
          · obtain ⟨M2, k2, v2', g2⟩ := r_keep' vb.2.1 vr
            refine OPR.go2 (f := fun M => f_X11_tune M (iI b) (iI Y)) vr v2' g2 ?_
            show f_X11_tune _ _ _ = _
            have e6 : iI ((54 + 8 * b : Nat) : Int) + 6 = iI ((60 + 8 * b : Nat) : Int) := by rw [Z6, iI_add]; congr 1; omega
            have e3 : iI ((54 + 8 * b : Nat) : Int) + 3 = iI ((57 + 8 * b : Nat) : Int) := by rw [Z3, iI_add]; congr 1; omega
            have e5 : iI ((54 + 8 * b : Nat) : Int) + 5 = iI ((59 + 8 * b : Nat) : Int) := by rw [Z5, iI_add]; congr 1; omega
            have v6 : vin (iI ((60 + 8 * b : Nat) : Int)) 1254 := vinI (by omega) (by omega)
            have v3 : vin (iI ((57 + 8 * b : Nat) : Int)) 1254 := vinI (by omega) (by omega)
            have v5 : vin (iI ((59 + 8 * b : Nat) : Int)) 1254 := vinI (by omega) (by omega)
            have t6 : (iI ((60 + 8 * b : Nat) : Int)).toNatClampNeg = 60 + 8 * b := iI_lo (by omega)
            have t3 : (iI ((57 + 8 * b : Nat) : Int)).toNatClampNeg = 57 + 8 * b := iI_lo (by omega)
            have t5 : (iI ((59 + 8 * b : Nat) : Int)).toNatClampNeg = 59 + 8 * b := iI_lo (by omega)
            have wc := r_wouldCrack' (M := M2) (x := uI a (57 + 8 * b) pi) (j := b) (n := Y) (by omega) (by omega) (by omega) (uI_n (by omega)) (uI_n (by omega)) (uI_n (by omega)) (by omega) b2 b4
            have hr := r_scraps (M := M2) (a := f) (p := 54 + 8 * b) (n := Y) (kd := 1) (by omega) (by omega) (by omega) (by omega) (by omega) (by omega) (by omega) (by omega) (by omega)
            rw [scr_dsc (by omega) (by omega) (by omega)] at hr
            unfold f_X11_tune
            rw [r_isBell hX (by omega), bnd2_s, ify hx, r_inL 1 1000 hY Z1 Z1000 (by omega) (by omega), bnd2_s, ify hy, r_of6 (by omega), bnd2_s, if_pos (by rw [c]; rfl), r_atBell, bnd2_s, r_weightB (by omega), bnd2_s, if_pos (by rw [iI_lt (by omega) (by omega)]; exact d), k2, bnd2_s, r_atBell, bnd2_s, r_lowered (by omega) (by omega) (by omega) b3 hS (by omega) (by omega), bnd2_s, e3, if_pos v3]
            simp only [t3, ← hpi, up2_RF, letB_e]
            rw [wc, bnd2_s]
            have g5 : ∀ s : Int, uI (uI a (57 + 8 * b) pi) (60 + 8 * b) s (59 + 8 * b) = a (59 + 8 * b) := fun s => by rw [uI_n (by omega), uI_n (by omega)]
            by_cases cr : crk (a (59 + 8 * b)) Y (a (56 + 8 * b)) (a (58 + 8 * b))
            · rw [if_pos cr] at hst
              have ef : uI (uI (uI a (57 + 8 * b) pi) (60 + 8 * b) 1) (59 + 8 * b) (a (59 + 8 * b) + Y) = f := by rw [hf, hst]; rfl
              rw [ify cr]
              simp only [e6, if_pos v6, t6, show (1 : Int32) = iI 1 from rfl, up2_RF, letB_e, e5, if_pos v5, t5, RF_21, g5, iI_add, ef, hr, bnd2_s, if_pos v3, fin3]
            · rw [if_neg cr] at hst
              have ef : uI (uI (uI a (57 + 8 * b) pi) (60 + 8 * b) 0) (59 + 8 * b) (a (59 + 8 * b) + Y) = f := by rw [hf, hst]; rfl
              rw [ifn cr]
              simp only [e6, if_pos v6, t6, show (1 : Int32) = iI 1 from rfl, show (0 : Int32) = iI 0 from rfl, up2_RF, letB_e, e5, if_pos v5, t5, RF_21, g5, iI_add, ef, hr, bnd2_s, if_pos v3, fin3]
        · refine ⟨-2, a, n, H, L, t, vb.succ, OPC.same vc ?_, fun M1 vr => OPR.go (f := fun M => f_X11_tune M (iI b) (iI Y)) vr ?_⟩
          · unfold f_X10_tune optE
            rw [bellAt_some R hb, bnd2_s]
            simp only
            rw [e_inL 1 1000 hY Z1 Z1000 (by omega) (by omega), bnd2_s, ify hy, R.b6 hb, if_pos (by rw [c]; rfl), e_weight, bnd2_s, R.b0 hb, R.b1 hb, iI_add, if_neg (by rw [iI_lt (by omega) (by omega)]; exact d)]
          · show f_X11_tune _ _ _ = _
            unfold f_X11_tune
            rw [r_isBell hX (by omega), bnd2_s, ify hx, r_inL 1 1000 hY Z1 Z1000 (by omega) (by omega), bnd2_s, ify hy, r_of6 (by omega), bnd2_s, if_pos (by rw [c]; rfl), r_atBell, bnd2_s, r_weightB (by omega), bnd2_s, if_neg (by rw [iI_lt (by omega) (by omega)]; exact d)]
      · refine ⟨-2, a, n, H, L, t, vb.succ, OPC.same vc ?_, fun M1 vr => OPR.go (f := fun M => f_X11_tune M (iI b) (iI Y)) vr ?_⟩
        · unfold f_X10_tune optE
          rw [bellAt_some R hb, bnd2_s]
          simp only
          rw [e_inL 1 1000 hY Z1 Z1000 (by omega) (by omega), bnd2_s, ify hy, R.b6 hb, if_neg (by rw [Z0, iI_inj (by omega) (by omega)]; exact c)]
        · show f_X11_tune _ _ _ = _
          unfold f_X11_tune
          rw [r_isBell hX (by omega), bnd2_s, ify hx, r_inL 1 1000 hY Z1 Z1000 (by omega) (by omega), bnd2_s, ify hy, r_of6 (by omega), bnd2_s, if_neg (by rw [Z0, iI_inj (by omega) (by omega)]; exact c)]
    · refine ⟨-1, a, n, H, L, t, vb.succ, OPC.same vc ?_, fun M1 vr => OPR.go (f := fun M => f_X11_tune M (iI b) (iI Y)) vr ?_⟩
      · unfold f_X10_tune optE
        rw [bellAt_some R hb, bnd2_s]
        simp only
        rw [e_inL 1 1000 hY Z1 Z1000 (by omega) (by omega), bnd2_s, ifn hy]
      · show f_X11_tune _ _ _ = _
        unfold f_X11_tune
        rw [r_isBell hX (by omega), bnd2_s, ify hx, r_inL 1 1000 hY Z1 Z1000 (by omega) (by omega), bnd2_s, ifn hy]
  · refine ⟨-1, a, n, H, L, t, vb.succ, OPC.same vc ?_, fun M1 vr => OPR.go (f := fun M => f_X11_tune M (iI X) (iI Y)) vr ?_⟩
    · unfold f_X10_tune optE
      rw [bellAt_none R (by omega) hX hx, bnd2_s]
    · show f_X11_tune _ _ _ = _
      unfold f_X11_tune
      rw [r_isBell hX (by omega), bnd2_s, ifn hx]
end
