section
/-! The call pour. -/
theorem e_drawB {M : MM} {i2 : Nat} {n c t : Int} (h1 : M 0 6 = iI c) (h2 : M 0 7 = iI t) (hi : 54 ≤ i2) (hn : 0 ≤ n) (hc : 0 ≤ c) (ht : 0 ≤ t) (hB : c + t ≤ 20000) (hw : n ≤ c + t) : f_X6_drawInto M 0 6 0 i2 (iI n) = some ((), up2 (up2 (up2 (up2 M 0 i2 (iI (cin n c t))) 0 (i2 + 1) (iI (n - cin n c t))) 0 6 (iI (c - cin n c t))) 0 7 (iI (t - (n - cin n c t)))) := by
  have m0 : n * c ≤ 20000 * c := Int.mul_le_mul_of_nonneg_right (by omega) hc
  unfold f_X6_drawInto
  rw [e_copperOfDraw h1 h2 hn hc ht (by omega) hw (by omega), bnd2_s]
  simp only [letB_e, iI_sub]
  rw [up2_in (i' := i2) 0 (show i2 ≠ i2 + 1 by omega), up2_eq, up2_in (i := i2 + 1) 0 (show 6 ≠ i2 + 1 by omega), up2_in (i := i2) 0 (show 6 ≠ i2 by omega), h1, iI_sub, up2_in (i := 6) 0 (show i2 + 1 ≠ 6 by omega), up2_eq, up2_in (i := 6) 0 (show 6 + 1 ≠ 6 by omega), up2_in (i := i2 + 1) 0 (show 6 + 1 ≠ i2 + 1 by omega), up2_in (i := i2) 0 (show 6 + 1 ≠ i2 by omega), show M 0 (6 + 1) = iI t from h2, iI_sub]
theorem c_sprueOf {M : MM} {a : Nat → Int} (R : RA (M 0) (M 40) (M 50) a) (S : BS a) {y : Int} (hy : 0 ≤ y) (hy2 : y ≤ 20000) : f_X9_sprueOf M 0 (iI y) = some (iI (sh y (a 49)), M) := by
  unfold BS at S
  have m : y * a 49 ≤ y * 300 := Int.mul_le_mul_of_nonneg_left (by omega) hy
  unfold f_X9_sprueOf
  rw [if_pos (show vin (4 : Int32) 7 from by decide), show (4 : Int32).toNatClampNeg = 4 from by decide, show M (40 + 0) 4 = iI (a 49) from R.se (j := 4) (by omega), e_share hy (by omega) (by omega), bnd2_s]
theorem c_castBell {M : MM} {a : Nat → Int} (R : RA (M 0) (M 40) (M 50) a) (hm : BM a) (hs : BS a) {b : Nat} (hb : a 52 = b) (h100 : b < 100) {pf y r st : Int} (hpf : 0 ≤ pf ∧ pf ≤ 3) (hy : 1 ≤ y) (hy2 : y ≤ 10000) (hw : y + sh y (a 49) ≤ bC a + bT a) (hr : isRt (1000000 * y) r) (hst : st = if a 47 ≤ alo (cin y (bC a) (bT a)) (y - cin y (bC a) (bT a)) ∧ alo (cin y (bC a) (bT a)) (y - cin y (bC a) (bT a)) ≤ a 48 then 0 else 1) : ∃ M1, f_X9_castBell M 0 (iI pf) (iI y) = some (iI b, M1) ∧ CW M M1 (poF a b pf y (pit pf r (alo (cin y (bC a) (bT a)) (y - cin y (bC a) (bT a)))) st) := by
  have hbb := bC_b hm hs
  have hp := po_b hm hs hy hw
  have hm' := hm
  have hs' := hs
  unfold BM at hm'
  unfold BS at hs'
  have h8 : 0 ≤ a 8 ∧ a 8 ≤ 12 := by omega
  have hs1 := sh_le (p := y) (s := a 49) (by omega) (by omega) (by omega)
  have r100 := rt_100 hy hr
  obtain ⟨rr, hr2, hr3⟩ := rt_of (w := y) (by omega) (by omega)
  have hr4 := rt_un hr hr2
  have m0 : a 6 * a 45 ≤ a 6 * 50 := Int.mul_le_mul_of_nonneg_left (by omega) (by omega)
  have m1 : a 7 * a 46 ≤ a 7 * 100 := Int.mul_le_mul_of_nonneg_left (by omega) (by omega)
  obtain ⟨dc, hdc⟩ : ∃ dc, dc = cin y (bC a) (bT a) := ⟨_, rfl⟩
  obtain ⟨al, hal⟩ : ∃ al, al = alo dc (y - dc) := ⟨_, rfl⟩
  rw [← hdc] at hp
  have al1 := alo_nn (c := dc) (t := y - dc) (by omega) (by omega)
  have al2 := alo_le (c := dc) (t := y - dc) (by omega) (by omega)
  rw [← hal] at al1 al2
  rw [← hdc, ← hal] at hst
  rw [← hdc, ← hal]
  -- the burning
  have eb := e_burn (M := M) (p := 6) (c := a 6) (t := a 7) (s0 := a 4) (s1 := a 5) (u := a 45) (v := a 46) (by omega) (R.lo (by omega)) (R.lo (q := 7) (by omega)) (R.lo (by omega)) (R.lo (by omega)) (R.se (j := 0) (by omega)) (R.se (j := 1) (by omega)) (by omega) (by omega) (by omega) (by omega) (by omega) (by omega)
  obtain ⟨M1, hM1⟩ : ∃ M1, M1 = up2 (up2 (up2 (up2 M 0 6 (iI (a 6 - sh (a 6) (a 45)))) 0 4 (iI (a 4 + sh (a 6) (a 45)))) 0 (6 + 1) (iI (a 7 - sh (a 7) (a 46)))) 0 5 (iI (a 5 + sh (a 7) (a 46))) := ⟨_, rfl⟩
  rw [← hM1] at eb
  have w1 : CW M M1 (mv a 6 4 (sh (a 6) (a 45)) (sh (a 7) (a 46))) := by
    rw [mv_eq (by omega), hM1]
    exact ((((CW.refl R).s (q := 6) _ (by omega)).s (q := 4) _ (by omega)).s (q := 6 + 1) _ (by omega)).s (q := 5) _ (by omega)
  have n52 : M1 0 52 = iI b := by rw [w1.1.nb, r0_n (by omega), hb]
  have n6 : M1 0 6 = iI (bC a) := by rw [w1.1.lo (by omega), r0_6]; rfl
  have n7 : M1 0 7 = iI (bT a) := by rw [w1.1.lo (by omega), r0_7]; rfl
  have tb : (iI (b : Int)).toNatClampNeg = b := iI_lo (by omega)
  have vb : vin (iI (b : Int)) 100 := vinI (by omega) (by omega)
  -- the bell is drawn
  have ed := e_drawB (M := M1) (i2 := 54 + 8 * b) (n := y) n6 n7 (by omega) (by omega) (by omega) (by omega) (by omega) (by omega)
  rw [← hdc, show 54 + 8 * b + 1 = 55 + 8 * b by omega] at ed
  obtain ⟨M2, hM2⟩ : ∃ M2, M2 = up2 (up2 (up2 (up2 M1 0 (54 + 8 * b) (iI dc)) 0 (55 + 8 * b) (iI (y - dc))) 0 6 (iI (bC a - dc))) 0 7 (iI (bT a - (y - dc))) := ⟨_, rfl⟩
  rw [← hM2] at ed
  have w2 : CW M1 M2 (poK a b y) := by
    unfold poK
    rw [hM2, ← hdc]
    exact ((((CW.refl w1.1).s (q := 54 + 8 * b) _ (by omega)).s (q := 55 + 8 * b) _ (by omega)).s (q := 6) _ (by omega)).s (q := 7) _ (by omega)
  have z0 : M2 0 (54 + 8 * b) = iI dc := by rw [hM2, up2_in _ (by omega), up2_in _ (by omega), up2_in _ (by omega), up2_eq]
  have z1 : M2 0 (55 + 8 * b) = iI (y - dc) := by rw [hM2, up2_in _ (by omega), up2_in _ (by omega), up2_eq]
  -- the sprue
  have k6 := poK_6 a b y
  have k7 := poK_7 a b y
  rw [← hdc] at k6 k7
  have es := c_sprueOf (M := M2) (a := poK a b y) w2.1 (hs.congr (fun q q1 q2 => poK_n (by omega) (by omega) (by omega))) (y := y) (by omega) (by omega)
  rw [poK_n (q := 49) (by omega) (by omega) (by omega)] at es
  obtain ⟨M3, k3, w3, l0, l1, q3⟩ := c_draw60 w2.1 (p := 6) (n := sh y (a 49)) (w2.1.lo (by omega)) (w2.1.lo (by omega)) (Or.inl rfl) (by omega) (by omega) (show 0 ≤ poK a b y 7 by omega) (show poK a b y 6 + poK a b y 7 ≤ 20000 by omega) (show sh y (a 49) ≤ poK a b y 6 + poK a b y 7 by omega)
  have ec := cin_nn (n := sh y (a 49)) (c := poK a b y 6) (t := poK a b y 7) (by omega) (by omega) (by omega)
  have ec2 := cin_le (n := sh y (a 49)) (c := poK a b y 6) (t := poK a b y 7) (by omega) (by omega) (by omega) (by omega)
  obtain ⟨M4, k4, w4, q4, -⟩ := c_add w3.1 (by rw [drw_n (by omega) (by omega), poK_n (by omega) (by omega) (by omega)]; omega) (kd := 0) (hs_60 l0 l1) ec (show 0 ≤ sh y (a 49) - cin (sh y (a 49)) (poK a b y 6) (poK a b y 7) by omega) (show cin (sh y (a 49)) (poK a b y 6) (poK a b y 7) + (sh y (a 49) - cin (sh y (a 49)) (poK a b y 6) (poK a b y 7)) ≤ 1000000 by omega)
  have k4' : f_X2_add M3 0 60 0 0 = some ((), M4) := k4
  have wD : CW M M4 (poD a b y) := ((w1.trans w2).trans w3).trans w4
  have y0 : M4 0 (54 + 8 * b) = iI dc := by rw [q4 _ (by omega), q3 _ (by omega) (by omega), z0]
  have y1 : M4 0 (55 + 8 * b) = iI (y - dc) := by rw [q4 _ (by omega), q3 _ (by omega) (by omega), z1]
  have ea : f_X6_alloy M4 0 (54 + 8 * b) = some (iI al, M4) := by
    unfold f_X6_alloy
    rw [e_weight, bnd2_s, show 54 + 8 * b + 1 = 55 + 8 * b by omega, y0, y1, iI_add, e_alloyOf (by omega) (by omega) (by omega), bnd2_s, show dc + (y - dc) - (y - dc) = dc by omega, hal]
  -- what is written on the bell
  obtain ⟨pi, hpi⟩ : ∃ pi, pi = pit pf r al := ⟨_, rfl⟩
  rw [← hpi]
  obtain ⟨M5, hM5⟩ : ∃ M5, M5 = up2 (up2 (up2 (up2 M4 0 (56 + 8 * b) (iI pf)) 0 (57 + 8 * b) (iI pi)) 0 (58 + 8 * b) (iI y)) 0 (59 + 8 * b) 0 := ⟨_, rfl⟩
  have w5 : CW M M5 (uI (uI (uI (uI (poD a b y) (56 + 8 * b) pf) (57 + 8 * b) pi) (58 + 8 * b) y) (59 + 8 * b) 0) := by
    rw [hM5]
    exact (((wD.s (q := 56 + 8 * b) _ (by omega)).s (q := 57 + 8 * b) _ (by omega)).s (q := 58 + 8 * b) _ (by omega)).s (q := 59 + 8 * b) _ (by omega)
  have s47 : M5 40 2 = iI (a 47) := by
    rw [w5.1.se (j := 2) (by omega), uI_n (by omega), uI_n (by omega), uI_n (by omega), uI_n (by omega), poD_n h8 (by omega) (by omega) (by omega)]
  have s48 : M5 40 3 = iI (a 48) := by
    rw [w5.1.se (j := 3) (by omega), uI_n (by omega), uI_n (by omega), uI_n (by omega), uI_n (by omega), poD_n h8 (by omega) (by omega) (by omega)]
  have hst2 : 0 ≤ st ∧ st ≤ 1 := by rw [hst]; split <;> omega
  obtain ⟨M6, hM6⟩ : ∃ M6, M6 = up2 (up2 M5 0 (60 + 8 * b) (iI st)) 0 (61 + 8 * b) 0 := ⟨_, rfl⟩
  have w6 : CW M M6 (poE a b pf y pi st) := by
    have w5' := w5.up (w5.1.u_state (b := b) (x := st) (by omega) (by omega))
    have w5'' := w5'.up (w5'.1.u_for (b := b) 0 (-4) (by omega) (fun q => by
      rw [uI_n (by omega), uI_n (by omega), uI_n (by omega), uI_n (by omega), uI_n (by omega), poD_n h8 (by omega) (by omega) (by omega)] at q
      omega))
    rw [hM6]
    exact w5''
  have e52 : poE a b pf y pi st 52 = b := by
    unfold poE
    rw [uI_n (by omega), uI_n (by omega), uI_n (by omega), uI_n (by omega), uI_n (by omega), uI_n (by omega), poD_n h8 (by omega) (by omega) (by omega), hb]
  have m52 : M6 0 52 = iI b := by rw [w6.1.nb, e52]
  have w7 : CW M (up2 M6 0 52 (iI ((b : Int) + 1))) (poF a b pf y pi st) := by
    have h := w6.1.u_bell (by rw [e52]; omega) (by rw [e52]; omega) (fun f hf => by
      rw [e52, Int.toNat_natCast]
      have hf2 : f = 0 ∨ f = 1 ∨ f = 2 ∨ f = 3 ∨ f = 4 ∨ f = 5 ∨ f = 6 := by omega
      rcases hf2 with rfl | rfl | rfl | rfl | rfl | rfl | rfl
      · rw [Nat.add_zero, hM6, up2_in _ (by omega), up2_in _ (by omega), hM5, up2_in _ (by omega), up2_in _ (by omega), up2_in _ (by omega), up2_in _ (by omega), y0]
        unfold poE
        rw [uI_n (by omega), uI_n (by omega), uI_n (by omega), uI_n (by omega), uI_n (by omega), uI_n (by omega), poD_0 h8, hdc]
      · rw [show 54 + 8 * b + 1 = 55 + 8 * b by omega, hM6, up2_in _ (by omega), up2_in _ (by omega), hM5, up2_in _ (by omega), up2_in _ (by omega), up2_in _ (by omega), up2_in _ (by omega), y1]
        unfold poE
        rw [uI_n (by omega), uI_n (by omega), uI_n (by omega), uI_n (by omega), uI_n (by omega), uI_n (by omega), poD_1 h8, hdc]
      · rw [show 54 + 8 * b + 2 = 56 + 8 * b by omega, hM6, up2_in _ (by omega), up2_in _ (by omega), hM5, up2_in _ (by omega), up2_in _ (by omega), up2_in _ (by omega), up2_eq]
        unfold poE
        rw [uI_n (by omega), uI_n (by omega), uI_n (by omega), uI_n (by omega), uI_n (by omega), uI_s]
      · rw [show 54 + 8 * b + 3 = 57 + 8 * b by omega, hM6, up2_in _ (by omega), up2_in _ (by omega), hM5, up2_in _ (by omega), up2_in _ (by omega), up2_eq]
        unfold poE
        rw [uI_n (by omega), uI_n (by omega), uI_n (by omega), uI_n (by omega), uI_s]
      · rw [show 54 + 8 * b + 4 = 58 + 8 * b by omega, hM6, up2_in _ (by omega), up2_in _ (by omega), hM5, up2_in _ (by omega), up2_eq]
        unfold poE
        rw [uI_n (by omega), uI_n (by omega), uI_n (by omega), uI_s]
      · rw [show 54 + 8 * b + 5 = 59 + 8 * b by omega, hM6, up2_in _ (by omega), up2_in _ (by omega), hM5, up2_eq]
        unfold poE
        rw [uI_n (by omega), uI_n (by omega), uI_s]; rfl
      · rw [show 54 + 8 * b + 6 = 60 + 8 * b by omega, hM6, up2_in _ (by omega), up2_eq]
        unfold poE
        rw [uI_n (by omega), uI_s]) (by
      rw [e52, Int.toNat_natCast]
      unfold poE
      rw [uI_n (by omega), uI_s]; omega)
    rw [e52] at h
    exact w6.up h
  refine ⟨_, ?_, w7⟩
  have v2 : vin (2 : Int32) 7 := by decide
  have v3 : vin (3 : Int32) 7 := by decide
  have t2 : (2 : Int32).toNatClampNeg = 2 := by decide
  have t3 : (3 : Int32).toNatClampNeg = 3 := by decide
  have ret : iI ((b : Int) + 1) - 1 = iI b := by rw [Z1, iI_sub]; congr 1; omega
  unfold f_X9_castBell
  rw [eb, bnd2_s, n52, if_pos vb]
  simp only [tb, Nat.add_zero]
  rw [ed, bnd2_s, es, bnd2_s, k3, bnd2_s, k4', bnd2_s, ea, bnd2_s, letB_e, c_rootOf (by omega) (by omega) hr, bnd2_s, c_firstPitch hpf (by omega) (by omega) al1 al2, bnd2_s, ← hpi, letB_e, letB_e, letB_e, ← hM5, if_pos v2, if_pos v3, t2, t3, s47, s48, e_isIn (by omega) (by omega) (by omega), bnd2_s]
  have add1 : iI (b : Int) + 1 = iI ((b : Int) + 1) := by rw [Z1, iI_add]
  by_cases c : a 47 ≤ al ∧ al ≤ a 48
  · rw [if_pos c] at hst
    subst hst
    rw [ify c, letB_e, letB_e, letB_e, show up2 (up2 M5 0 (60 + 8 * b) 0) 0 (61 + 8 * b) 0 = M6 from hM6.symm, m52, add1, up2_eq, ret]
  · rw [if_neg c] at hst
    subst hst
    rw [ifn c, letB_e, letB_e, letB_e, show up2 (up2 M5 0 (60 + 8 * b) 1) 0 (61 + 8 * b) 0 = M6 from hM6.symm, m52, add1, up2_eq, ret]
end
