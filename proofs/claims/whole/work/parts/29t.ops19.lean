section
/-! The call pour. -/
theorem RF_ite {M : MM} {P : Prop} [Decidable P] {a b : Nat → Int} {r : Int32} : (if P then some (r, RF M a) else some (r, RF M b)) = some (r, RF M (if P then a else b)) := by
  split <;> rfl
theorem o_pour {k : Int} (x y : Int32) : CALL k (fun M => f_X10_pour M x y) (fun M => f_X11_pour M x y) := by
  apply both
  intro M a n H L t vc vb
  obtain ⟨X, hX, rfl⟩ := ofI x
  obtain ⟨Y, hY, rfl⟩ := ofI y
  have R := vc.1
  have hM := vb.1.1
  have hS := vb.1.2.1
  have hbb := bC_b hM hS
  have hM' := hM
  have hS' := hS
  unfold BM at hM'
  unfold BS at hS'
  have hB := vb.1.2.2.2.1
  have h8 : 0 ≤ a 8 ∧ a 8 ≤ 12 := by omega
  by_cases hx : 0 ≤ X ∧ X ≤ 3
  · by_cases hy : 1 ≤ Y ∧ Y ≤ 10000
    · obtain ⟨Mb, kb, gb, z0, z1⟩ := c_burntMelt R hM hS
      have wb := CW.o65 R gb
      have vcb := vc.step wb
      have Rb := wb.1
      have hs1 := sh_nn (p := Y) (s := a 49) (by omega) (by omega)
      have hs2 := sh_le (p := Y) (s := a 49) (by omega) (by omega) (by omega)
      have ws : f_X9_weightWithSprue Mb 0 (iI Y) = some (iI (Y + sh Y (a 49)), Mb) := by
        unfold f_X9_weightWithSprue
        rw [c_sprueOf Rb hS (by omega) (by omega), bnd2_s, iI_add]
      have bw : f_X6_weight Mb (65 + 0) 0 = some (iI (bC a + bT a), Mb) := by
        rw [e_weight]; show some (Mb 65 0 + Mb 65 1, Mb) = _; rw [z0, z1, iI_add]
      have lo : ∀ M : MM, f_X10_isProfile M (iI X) = some (dI (0 ≤ X ∧ X ≤ 3), M) := fun M => e_isProfile hX
      by_cases c : Y + sh Y (a 49) ≤ bC a + bT a
      · have c' : iI (Y + sh Y (a 49)) ≤ iI (bC a + bT a) := by rw [iI_le (by omega) (by omega)]; exact c
        have hN12 := vb.1.2.2.2.2.2.1
        have v52 : vin (52 : Int32) 1254 := by decide
        have t52 : (52 : Int32).toNatClampNeg = 52 := by decide
        by_cases d : hereN a = 12
        · refine ⟨-3, a, n, H, L, t, vb.succ, OPC.ofCW vc (M1 := Mb) ?_ wb, fun M1 vr => OPR.go (f := fun M => f_X11_pour M (iI X) (iI Y)) vr ?_⟩
          · unfold f_X10_pour
            rw [lo, bnd2_s, ify hx, e_inL 1 10000 hY Z1 Z10000 (by omega) (by omega), bnd2_s, ify hy, kb, bnd2_s, bw, bnd2_s, ws, bnd2_s, if_pos c', c_remaining Rb (by omega) hB, bnd2_s, if_pos (by rw [Z12, iI_le (by omega) (by omega)]; omega)]
          · show f_X11_pour _ _ _ = _
            unfold f_X11_pour
            rw [r_inL 0 3 hX Z0 Z3 (by omega) (by omega), bnd2_s, ify hx, r_inL 1 10000 hY Z1 Z10000 (by omega) (by omega), bnd2_s, ify hy, r_melt4 hM hS, bnd2_s, r_sprueOf (by omega) (by omega) (by omega) (by omega), bnd2_s, iI_add, if_pos c', r_here (by omega) hB, bnd2_s, if_pos (by rw [d]; rfl)]
        · by_cases e : a 52 = 100
          · refine ⟨-3, a, n, H, L, t, vb.succ, OPC.ofCW vc (M1 := Mb) ?_ wb, fun M1 vr => OPR.go (f := fun M => f_X11_pour M (iI X) (iI Y)) vr ?_⟩
            · unfold f_X10_pour
              rw [lo, bnd2_s, ify hx, e_inL 1 10000 hY Z1 Z10000 (by omega) (by omega), bnd2_s, ify hy, kb, bnd2_s, bw, bnd2_s, ws, bnd2_s, if_pos c', c_remaining Rb (by omega) hB, bnd2_s, if_neg (by rw [Z12, iI_le (by omega) (by omega)]; omega), Rb.nb, if_neg (by rw [Z100, iI_lt (by omega) (by omega)]; omega)]
            · show f_X11_pour _ _ _ = _
              unfold f_X11_pour
              rw [r_inL 0 3 hX Z0 Z3 (by omega) (by omega), bnd2_s, ify hx, r_inL 1 10000 hY Z1 Z10000 (by omega) (by omega), bnd2_s, ify hy, r_melt4 hM hS, bnd2_s, r_sprueOf (by omega) (by omega) (by omega) (by omega), bnd2_s, iI_add, if_pos c', r_here (by omega) hB, bnd2_s, if_neg (by rw [Z12, iI_inj (by omega) (by omega)]; omega), if_pos v52]
              simp only [t52, RF_21]
              rw [if_pos (by rw [e]; rfl)]
          · obtain ⟨b, hb⟩ : ∃ b : Nat, a 52 = b := ⟨(a 52).toNat, by omega⟩
            obtain ⟨r, hr, hr2⟩ := rt_of (w := Y) (by omega) (by omega)
            have r100 := rt_100 (by omega) hr
            obtain ⟨dc, hdc⟩ : ∃ dc, dc = cin Y (bC a) (bT a) := ⟨_, rfl⟩
            obtain ⟨al, hal⟩ : ∃ al, al = alo dc (Y - dc) := ⟨_, rfl⟩
            obtain ⟨st, hst⟩ : ∃ st : Int, st = if a 47 ≤ al ∧ al ≤ a 48 then 0 else 1 := ⟨_, rfl⟩
            obtain ⟨pi, hpi⟩ : ∃ pi, pi = pit X r al := ⟨_, rfl⟩
            have hp := po_b hM hS hy.1 c
            rw [← hdc] at hp
            have al1 := alo_nn (c := dc) (t := Y - dc) (by omega) (by omega)
            have al2 := alo_le (c := dc) (t := Y - dc) (by omega) (by omega)
            rw [← hal] at al1 al2
            have hst2 : 0 ≤ st ∧ st ≤ 1 := by rw [hst]; split <;> omega
            have hpb := pit_b (p := X) (r := r) (al := al) (by omega) al1 al2
            rw [← hpi] at hpb
            refine ⟨iI b, poF a b X Y pi st, pN n, pH n H a, L, t, vb.push (by omega) (Bd_poF vb.1 hb (by omega) d hx hy.1 hy.2 (by omega) hst2 c), ?_, fun M1 vr => ?_⟩
            · obtain ⟨M1, k1, v1, g1⟩ := c_keep' vcb vb
              obtain ⟨M2, k2, w2⟩ := c_castBell v1.1 hM hS hb (by omega) hx hy.1 hy.2 c hr (st := st) (by rw [hst, hal, hdc])
              rw [← hdc, ← hal, ← hpi] at w2
              refine OPC.go v1 (fun G q1 q2 => (g1.FC G q1 q2).trans (gb G (by omega))) (M2 := M2) ?_ w2
              unfold f_X10_pour
              rw [lo, bnd2_s, ify hx, e_inL 1 10000 hY Z1 Z10000 (by omega) (by omega), bnd2_s, ify hy, kb, bnd2_s, bw, bnd2_s, ws, bnd2_s, if_pos c', c_remaining Rb (by omega) hB, bnd2_s, if_neg (by rw [Z12, iI_le (by omega) (by omega)]; omega), Rb.nb, if_pos (by rw [Z100, iI_lt (by omega) (by omega)]; omega), k1, bnd2_s, k2, bnd2_s]
            · obtain ⟨M2, k2, v2', f2⟩ := r_keep' vb.2.1 vr
              refine OPR.go2 (f := fun M => f_X11_pour M (iI X) (iI Y)) vr v2' f2 ?_
              show f_X11_pour _ _ _ = _
              obtain ⟨r0, hr0⟩ : ∃ r0, r0 = mv a 6 4 (sh (a 6) (a 45)) (sh (a 7) (a 46)) := ⟨_, rfl⟩
              have r052 : r0 52 = b := by rw [hr0, r0_n (by omega), hb]
              have r06 : r0 6 = bC a := by rw [hr0, r0_6]; rfl
              have r07 : r0 7 = bT a := by rw [hr0, r0_7]; rfl
              have eb := r_burns (M := M2) (a := a) (p := 6) (by omega) (by omega) (show 0 ≤ a 7 by omega) (by omega) (show a 7 ≤ 20000000 by omega) hS
              have eb' : f_X11_burns (RF M2 a) 6 = some ((), RF M2 r0) := by rw [hr0]; exact eb
              have e1 : iI ((54 + 8 * b : Nat) : Int) + 1 = iI ((55 + 8 * b : Nat) : Int) := by rw [Z1, iI_add]; congr 1; omega
              have e2 : iI ((54 + 8 * b : Nat) : Int) + 2 = iI ((56 + 8 * b : Nat) : Int) := by rw [Z2, iI_add]; congr 1; omega
              have e3 : iI ((54 + 8 * b : Nat) : Int) + 3 = iI ((57 + 8 * b : Nat) : Int) := by rw [Z3, iI_add]; congr 1; omega
              have e4 : iI ((54 + 8 * b : Nat) : Int) + 4 = iI ((58 + 8 * b : Nat) : Int) := by rw [Z4, iI_add]; congr 1; omega
              have e5 : iI ((54 + 8 * b : Nat) : Int) + 5 = iI ((59 + 8 * b : Nat) : Int) := by rw [Z5, iI_add]; congr 1; omega
              have e6 : iI ((54 + 8 * b : Nat) : Int) + 6 = iI ((60 + 8 * b : Nat) : Int) := by rw [Z6, iI_add]; congr 1; omega
              have e7 : iI ((54 + 8 * b : Nat) : Int) + 7 = iI ((61 + 8 * b : Nat) : Int) := by rw [Z7, iI_add]; congr 1; omega
              have v0 : vin (iI ((54 + 8 * b : Nat) : Int)) 1254 := vinI (by omega) (by omega)
              have v1 : vin (iI ((55 + 8 * b : Nat) : Int)) 1254 := vinI (by omega) (by omega)
              have v2 : vin (iI ((56 + 8 * b : Nat) : Int)) 1254 := vinI (by omega) (by omega)
              have v3 : vin (iI ((57 + 8 * b : Nat) : Int)) 1254 := vinI (by omega) (by omega)
              have v4 : vin (iI ((58 + 8 * b : Nat) : Int)) 1254 := vinI (by omega) (by omega)
              have v5 : vin (iI ((59 + 8 * b : Nat) : Int)) 1254 := vinI (by omega) (by omega)
              have v6 : vin (iI ((60 + 8 * b : Nat) : Int)) 1254 := vinI (by omega) (by omega)
              have v7 : vin (iI ((61 + 8 * b : Nat) : Int)) 1254 := vinI (by omega) (by omega)
              have t0 : (iI ((54 + 8 * b : Nat) : Int)).toNatClampNeg = 54 + 8 * b := iI_lo (by omega)
              have t1 : (iI ((55 + 8 * b : Nat) : Int)).toNatClampNeg = 55 + 8 * b := iI_lo (by omega)
              have t2 : (iI ((56 + 8 * b : Nat) : Int)).toNatClampNeg = 56 + 8 * b := iI_lo (by omega)
              have t3 : (iI ((57 + 8 * b : Nat) : Int)).toNatClampNeg = 57 + 8 * b := iI_lo (by omega)
              have t4 : (iI ((58 + 8 * b : Nat) : Int)).toNatClampNeg = 58 + 8 * b := iI_lo (by omega)
              have t5 : (iI ((59 + 8 * b : Nat) : Int)).toNatClampNeg = 59 + 8 * b := iI_lo (by omega)
              have t6 : (iI ((60 + 8 * b : Nat) : Int)).toNatClampNeg = 60 + 8 * b := iI_lo (by omega)
              have t7 : (iI ((61 + 8 * b : Nat) : Int)).toNatClampNeg = 61 + 8 * b := iI_lo (by omega)
              have b1 : iI (b : Int) + 1 = iI ((b : Int) + 1) := by rw [Z1, iI_add]
              -- drawn
              obtain ⟨r2, hr2'⟩ : ∃ r2, r2 = uI (uI (uI r0 52 ((b : Int) + 1)) (54 + 8 * b) 0) (55 + 8 * b) 0 := ⟨_, rfl⟩
              have r26 : r2 6 = bC a := by rw [hr2', uI_n (by omega), uI_n (by omega), uI_n (by omega), r06]
              have r27 : r2 (6 + 1) = bT a := by rw [hr2', uI_n (by omega), uI_n (by omega), uI_n (by omega)]; exact r07
              have ed := r_draws (M := M2) (a := r2) (p := 6) (q := 54 + 8 * b) (n := Y) (by omega) (by omega) (by omega) (by omega) (by rw [r26]; omega) (by rw [r27]; omega) (by rw [r26, r27]; omega) (by rw [r26, r27]; omega)
              rw [r26, r27, hr2', hr0, po_52 (by omega), ← hr0, ← hr2'] at ed
              have ed' : f_X11_draws (RF M2 r2) 6 (iI ((54 + 8 * b : Nat) : Int)) (iI Y) = some ((), RF M2 (uI (poK a b Y) 52 ((b : Int) + 1))) := ed
              have es : f_X11_sprueOf (RF M2 (uI (poK a b Y) 52 ((b : Int) + 1))) (iI Y) = some (iI (sh Y (a 49)), RF M2 (uI (poK a b Y) 52 ((b : Int) + 1))) := by
                have h49 : uI (poK a b Y) 52 ((b : Int) + 1) 49 = a 49 := by rw [uI_n (by omega), poK_n (by omega) (by omega) (by omega)]
                have h := r_sprueOf (M := M2) (a := uI (poK a b Y) 52 ((b : Int) + 1)) (p := Y) (by omega) (by omega) (by rw [h49]; omega) (by rw [h49]; omega)
                rw [h49] at h
                exact h
              have k6 := poK_6 a b Y
              have k7 := poK_7 a b Y
              rw [← hdc] at k6 k7
              have k8 : poK a b Y 8 = a 8 := poK_n (by omega) (by omega) (by omega)
              have q6 : uI (poK a b Y) 52 ((b : Int) + 1) 6 = poK a b Y 6 := uI_n (by omega)
              have q7 : uI (poK a b Y) 52 ((b : Int) + 1) (6 + 1) = poK a b Y 7 := uI_n (by omega)
              have q8 : uI (poK a b Y) 52 ((b : Int) + 1) 8 = a 8 := by rw [uI_n (by omega), k8]
              have ec := r_scraps (M := M2) (a := uI (poK a b Y) 52 ((b : Int) + 1)) (p := 6) (n := sh Y (a 49)) (kd := 0) (by omega) (by omega) (by rw [q8]; exact h8) (by omega) (by omega) (by rw [q6]; omega) (by rw [q7]; omega) (by rw [q6, q7]; omega) (by rw [q6, q7]; omega)
              rw [scr_dsc (by rw [q8]; exact h8) (by omega) (by omega), dsc_52 (by rw [k8]; exact h8)] at ec
              have ec' : f_X11_scraps (RF M2 (uI (poK a b Y) 52 ((b : Int) + 1))) 6 (iI (sh Y (a 49))) 0 = some ((), RF M2 (uI (poD a b Y) 52 ((b : Int) + 1))) := ec
              -- written
              have al_1 := r_alloy' (M := M2) (x := uI (uI (poD a b Y) 52 ((b : Int) + 1)) (56 + 8 * b) X) (b := b) (c := dc) (t := Y - dc) (by omega) (by rw [uI_n (by omega), uI_n (by omega), poD_0 h8, hdc]) (by rw [uI_n (by omega), uI_n (by omega), poD_1 h8, hdc]) (by omega) (by omega) (by omega)
              rw [← hal] at al_1
              obtain ⟨x5, hx5⟩ : ∃ x5, x5 = uI (uI (uI (uI (uI (poD a b Y) 52 ((b : Int) + 1)) (56 + 8 * b) X) (57 + 8 * b) pi) (58 + 8 * b) Y) (59 + 8 * b) 0 := ⟨_, rfl⟩
              have al_2 := r_alloy' (M := M2) (x := x5) (b := b) (c := dc) (t := Y - dc) (by omega) (by rw [hx5, uI_n (by omega), uI_n (by omega), uI_n (by omega), uI_n (by omega), uI_n (by omega), poD_0 h8, hdc]) (by rw [hx5, uI_n (by omega), uI_n (by omega), uI_n (by omega), uI_n (by omega), uI_n (by omega), poD_1 h8, hdc]) (by omega) (by omega) (by omega)
              rw [← hal] at al_2
              have x47 : x5 47 = a 47 := by rw [hx5, uI_n (by omega), uI_n (by omega), uI_n (by omega), uI_n (by omega), uI_n (by omega), poD_n h8 (by omega) (by omega) (by omega)]
              have x48 : x5 48 = a 48 := by rw [hx5, uI_n (by omega), uI_n (by omega), uI_n (by omega), uI_n (by omega), uI_n (by omega), poD_n h8 (by omega) (by omega) (by omega)]
              unfold f_X11_pour
              rw [r_inL 0 3 hX Z0 Z3 (by omega) (by omega), bnd2_s, ify hx, r_inL 1 10000 hY Z1 Z10000 (by omega) (by omega), bnd2_s, ify hy, r_melt4 hM hS, bnd2_s, r_sprueOf (by omega) (by omega) (by omega) (by omega), bnd2_s, iI_add, if_pos c', r_here (by omega) hB, bnd2_s, if_neg (by rw [Z12, iI_inj (by omega) (by omega)]; omega), if_pos v52]
              simp only [t52, RF_21]
              rw [if_neg (by rw [Z100, iI_inj (by omega) (by omega)]; omega), k2, bnd2_s, eb', bnd2_s, if_pos v52]
              simp only [t52, RF_21, r052]
              rw [r_atBell, bnd2_s, if_pos v52, if_pos v52]
              simp only [t52, RF_21, r052, b1, up2_RF, letB_e, if_pos v0, t0, e1, if_pos v1, t1, show (0 : Int32) = iI 0 from rfl, ← hr2']
              rw [ed', bnd2_s, es, bnd2_s, show (iI 0 : Int32) = 0 from rfl, ec', bnd2_s, e2, if_pos v2]
              simp only [t2, up2_RF, letB_e]
              rw [al_1, bnd2_s, r_pitchOf hx (by omega) (by omega) hr al1 al2, bnd2_s, ← hpi, e3, if_pos v3]
              simp only [t3, up2_RF, letB_e, e4, if_pos v4, t4, e5, if_pos v5, t5, show (0 : Int32) = iI 0 from rfl, ← hx5]
              rw [al_2, bnd2_s, r_set2, bnd2_s, r_set3, bnd2_s, x47, x48, r_in (by omega) (by omega) (by omega), bnd2_s]
              by_cases cc : a 47 ≤ al ∧ al ≤ a 48
              · rw [if_pos cc] at hst
                rw [show (iI 0 : Int32) = 0 from rfl, ify cc]
                simp only [e6, if_pos v6, t6, show (0 : Int32) = iI 0 from rfl, up2_RF, letB_e, e7, if_pos v7, t7, Zm4]
                rw [hst, hx5, poF_o]; rfl
              · rw [if_neg cc] at hst
                rw [show (iI 0 : Int32) = 0 from rfl, ifn cc]
                simp only [e6, if_pos v6, t6, show (1 : Int32) = iI 1 from rfl, up2_RF, letB_e, e7, if_pos v7, t7, Zm4]
                rw [hst, hx5, poF_o]; rfl
      · have c' : ¬ iI (Y + sh Y (a 49)) ≤ iI (bC a + bT a) := by rw [iI_le (by omega) (by omega)]; exact c
        refine ⟨-2, a, n, H, L, t, vb.succ, OPC.ofCW vc (M1 := Mb) ?_ wb, fun M1 vr => OPR.go (f := fun M => f_X11_pour M (iI X) (iI Y)) vr ?_⟩
        · unfold f_X10_pour
          rw [lo, bnd2_s, ify hx, e_inL 1 10000 hY Z1 Z10000 (by omega) (by omega), bnd2_s, ify hy, kb, bnd2_s, bw, bnd2_s, ws, bnd2_s, if_neg c']
        · show f_X11_pour _ _ _ = _
          unfold f_X11_pour
          rw [r_inL 0 3 hX Z0 Z3 (by omega) (by omega), bnd2_s, ify hx, r_inL 1 10000 hY Z1 Z10000 (by omega) (by omega), bnd2_s, ify hy, r_melt4 hM hS, bnd2_s, r_sprueOf (by omega) (by omega) (by omega) (by omega), bnd2_s, iI_add, if_neg c']
    · refine ⟨-1, a, n, H, L, t, vb.succ, OPC.same vc ?_, fun M1 vr => OPR.same vr ?_⟩
      · unfold f_X10_pour
        rw [e_isProfile hX, bnd2_s, ify hx, e_inL 1 10000 hY Z1 Z10000 (by omega) (by omega), bnd2_s, ifn hy]
      · unfold f_X11_pour
        rw [r_inL 0 3 hX Z0 Z3 (by omega) (by omega), bnd2_s, ify hx, r_inL 1 10000 hY Z1 Z10000 (by omega) (by omega), bnd2_s, ifn hy]
  · refine ⟨-1, a, n, H, L, t, vb.succ, OPC.same vc ?_, fun M1 vr => OPR.same vr ?_⟩
    · unfold f_X10_pour
      rw [e_isProfile hX, bnd2_s, ifn hx]
    · unfold f_X11_pour
      rw [r_inL 0 3 hX Z0 Z3 (by omega) (by omega), bnd2_s, ifn hx]
end
