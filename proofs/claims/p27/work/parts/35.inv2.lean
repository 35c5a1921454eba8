/-! The state's facts through scrap and pour. -/
theorem scA_s {a : Nat → Int} {j m : Nat} (hm : m ≤ 1) : scA a j (4 + m) + scA a j (9 + 3 * j + m) = a (4 + m) + a (9 + 3 * j + m) := by
  have hm' : m = 0 ∨ m = 1 := by omega
  unfold scA
  split
  · rcases hm' with rfl | rfl
    · rw [Nat.add_zero, Nat.add_zero, mv_q (by omega), mv_p (by omega)]; omega
    · rw [mv_q1 (by omega), mv_p1 (by omega)]; omega
  · rfl
theorem scA_4 {a : Nat → Int} {j m : Nat} {k : Int} (hl : BL k a j) (hs : BS a) (hm : m ≤ 1) : a (4 + m) ≤ scA a j (4 + m) := by
  have h := scA_s (a := a) (j := j) hm
  have hb := scA_b hl hs
  have hm' : m = 0 ∨ m = 1 := by omega
  rcases hm' with rfl | rfl
  · simp only [Nat.add_zero] at h ⊢; omega
  · rw [show 9 + 3 * j + 1 = 10 + 3 * j by omega] at h; omega
theorem scB_lot {a : Nat → Int} {j n : Nat} (hj : j < n) (hn : n ≤ 12) {i f : Nat} (hi : i + 1 < n) (hf : f < 3) : scB a j n (9 + 3 * i + f) = if i < j then a (9 + 3 * i + f) else a (9 + 3 * (i + 1) + f) := by
  unfold scB rmv
  rw [if_neg (by omega)]
  by_cases c : i < j
  · rw [if_neg (by omega), if_pos c, mv_n (by omega) (by omega) (by omega) (by omega) (by omega), scA_n (by omega)]
  · rw [if_pos (by omega), if_neg c, mv_n (by omega) (by omega) (by omega) (by omega) (by omega), scA_n (by omega), show 9 + 3 * i + f + 3 = 9 + 3 * (i + 1) + f by omega]
theorem scB_hi {a : Nat → Int} {j n q : Nat} (hj : j < n) (hn : n ≤ 12) (hq : 45 ≤ q) : scB a j n q = a q := by
  rw [scB_lo (by omega) hn, if_neg (by omega), if_neg (by omega), if_neg (by omega), if_neg (by omega), scA_n (by omega)]
theorem J_scrap {a : Nat → Int} {k : Int} (h : JJ a) (hB : Bd k a) {j n : Nat} (hm : a 8 = n) (hj : j < n) : JJ (scB a j n) := by
  have hM := hB.1
  unfold BM at hM
  have hl := hB.2.2.1 j (by omega)
  have hn : n ≤ 12 := by omega
  have e8 : scB a j n 8 = ((n - 1 : Nat) : Int) := by rw [scB_lo (by omega) hn, if_pos rfl]; omega
  refine h.hi (fun q hq => scB_hi hj hn (by omega)) (by omega) (fun m hm1 => ?_) (fun i hi => ?_)
  · have hm' : m = 0 ∨ m = 1 := by omega
    have hls : lotS (scB a j n) m = lotS a m - a (9 + 3 * j + m) := by
      unfold lotS
      obtain ⟨r, hr⟩ : ∃ r, n = r + 1 := ⟨n - 1, by omega⟩
      subst hr
      rw [e8, hm, Int.toNat_natCast, Int.toNat_natCast, Nat.add_sub_cancel]
      exact sm_rm (f := fun i => a (9 + 3 * i + m)) (j := j) r (by omega) (fun i hi => by show scB _ _ _ _ = _; rw [scB_lot hj hn (by omega) (by omega), if_pos hi]) (fun i h1 h2 => by show scB _ _ _ _ = _; rw [scB_lot hj hn (by omega) (by omega), if_neg (by omega)])
    have hs := scA_s (a := a) (j := j) hm1
    have h4 := scA_4 hl hB.2.1 hm1
    have h5 := (h.1 m hm1).2
    have e2 : scB a j n (2 + m) = a (2 + m) := by rw [scB_lo (by omega) hn, if_neg (by omega), if_neg (by omega), if_neg (by omega), if_neg (by omega), scA_n (by omega)]
    have e0 : scB a j n m = a m := by rw [scB_lo (by omega) hn, if_neg (by omega), if_neg (by omega), if_neg (by omega), if_neg (by omega), scA_n (by omega)]
    have e4 : scB a j n (4 + m) = scA a j (4 + m) := by rw [scB_lo (by omega) hn, if_neg (by omega), if_neg (by omega), if_neg (by omega), if_neg (by omega)]
    have e6 : scB a j n (6 + m) = a (6 + m) + scA a j (9 + 3 * j + m) := by
      rcases hm' with rfl | rfl
      · rw [Nat.add_zero, Nat.add_zero, scB_lo (by omega) hn, if_neg (by omega), if_pos rfl]
      · rw [scB_lo (by omega) hn, if_neg (by omega), if_neg (by omega), if_pos rfl, show 9 + 3 * j + 1 = 10 + 3 * j by omega]
    rw [hls, e2, e0, e4, e6]
    omega
  · rw [e8, Int.toNat_natCast] at hi
    have g0 := scB_lot (a := a) hj hn (i := i) (f := 0) (by omega) (by omega)
    have g1 := scB_lot (a := a) hj hn (i := i) (f := 1) (by omega) (by omega)
    rw [Nat.add_zero, Nat.add_zero, Nat.add_zero] at g0
    rw [show 9 + 3 * i + 1 = 10 + 3 * i by omega, show 9 + 3 * (i + 1) + 1 = 10 + 3 * (i + 1) by omega] at g1
    rw [g0, g1]
    by_cases c : i < j
    · rw [if_pos c, if_pos c]; exact h.2.1 i (by omega)
    · rw [if_neg c, if_neg c]; exact h.2.1 (i + 1) (by omega)
theorem pit_p {p r al : Int} (hr : 100 ≤ r ∧ r ≤ 2999) (ha : 0 ≤ al) (ha2 : al ≤ 1000) : 1 ≤ pit p r al ∧ pit p r al ≤ 20000 := by
  have hf := fac_b p
  have h1 : 1 ≤ fac p * 1000 / r := (Int.le_ediv_iff_mul_le (by omega)).mpr (by omega)
  have h2 : fac p * 1000 / r ≤ 15000 := Int.ediv_le_of_le_mul (by omega) (by omega)
  unfold pit
  omega
theorem J_pour {a : Nat → Int} {k : Int} (h : JJ a) (hB : Bd k a) {b : Nat} (hb : a 52 = b) (h100 : b < 100) {x y : Int} (hy : 1 ≤ y) (hy2 : y ≤ 10000) (hw : y + sh y (a 49) ≤ bC a + bT a) : JJ (pouA a b x y) := by
  have hM := hB.1
  have hbb := bC_b hB.1 hB.2.1
  have hp := po_b hB.1 hB.2.1 hy hw
  unfold BM at hM
  have h8 : 0 ≤ a 8 ∧ a 8 ≤ 12 := by omega
  obtain ⟨h1, h2, h3, h4⟩ := h
  have al1 := alo_nn (c := cin y (bC a) (bT a)) (t := y - cin y (bC a) (bT a)) (by omega) (by omega)
  have al2 := alo_le (c := cin y (bC a) (bT a)) (t := y - cin y (bC a) (bT a)) (by omega) (by omega)
  have hpi := pit_p (p := x) (rtI_b (w := y) (by omega) (by omega)) al1 al2
  unfold pouA
  obtain ⟨st, hst⟩ : ∃ st : Int, st = if a 47 ≤ albA a y ∧ albA a y ≤ a 48 then 0 else 1 := ⟨_, rfl⟩
  have hst2 : 0 ≤ st ∧ st ≤ 1 := by rw [hst]; split <;> omega
  rw [← hst]
  have hpi : 1 ≤ pit x (rtI y) (albA a y) ∧ pit x (rtI y) (albA a y) ≤ 20000 := hpi
  obtain ⟨pi, hpe⟩ : ∃ pi, pi = pit x (rtI y) (albA a y) := ⟨_, rfl⟩
  rw [← hpe] at hpi ⊢
  obtain ⟨cy, hcy⟩ : ∃ cy, cy = cin y (bC a) (bT a) := ⟨_, rfl⟩
  rw [← hcy] at hp
  obtain ⟨s, hs⟩ : ∃ s, s = sh y (a 49) := ⟨_, rfl⟩
  rw [← hs] at hp hw
  obtain ⟨f, hf⟩ : ∃ f, f = poF a b x y pi st := ⟨_, rfl⟩
  rw [← hf]
  have k6 := poK_6 a b y
  have k7 := poK_7 a b y
  rw [← hcy] at k6 k7
  have k8 : poK a b y 8 = a 8 := poK_n (by omega) (by omega) (by omega)
  obtain ⟨c1, hc1⟩ : ∃ c1, c1 = cin s (poK a b y 6) (poK a b y 7) := ⟨_, rfl⟩
  have q1 := cin_nn (n := s) (c := poK a b y 6) (t := poK a b y 7) (by omega) (by omega) (by omega)
  have q2 := cin_le (n := s) (c := poK a b y 6) (t := poK a b y 7) (by omega) (by omega) (by omega) (by omega)
  rw [← hc1] at q1 q2
  have eD : poD a b y = addA (drw (poK a b y) 6 s) 0 c1 (s - c1) := by unfold poD dsc; rw [← hs, show 6 + 1 = 7 from rfl, ← hc1]
  have d8 : 0 ≤ drw (poK a b y) 6 s 8 ∧ drw (poK a b y) 6 s 8 ≤ 12 := by rw [drw_n (by omega) (by omega), k8]; exact h8
  have fn : ∀ q, q ≠ 52 → (q < 54 + 8 * b ∨ 62 + 8 * b ≤ q) → f q = poD a b y q := fun q q1 q2 => by
    rw [hf]; unfold poF poE
    rw [uI_n q1, uI_n (by omega), uI_n (by omega), uI_n (by omega), uI_n (by omega), uI_n (by omega), uI_n (by omega)]
  have fo : ∀ q, (q < 4 ∨ 45 ≤ q) → q ≠ 52 → (q < 54 + 8 * b ∨ 62 + 8 * b ≤ q) → f q = a q := fun q g0 g1 g2 => by rw [fn q g1 g2, poD_n h8 g0 (by omega) (by omega)]
  have f52 : f 52 = ((b + 1 : Nat) : Int) := by rw [hf]; unfold poF; rw [uI_s]; rfl
  have f0 : f (54 + 8 * b) = cy := by
    rw [hf, hcy]; unfold poF poE
    rw [uI_n (by omega), uI_n (by omega), uI_n (by omega), uI_n (by omega), uI_n (by omega), uI_n (by omega), uI_n (by omega), poD_0 h8]
  have f1 : f (55 + 8 * b) = y - cy := by
    rw [hf, hcy]; unfold poF poE
    rw [uI_n (by omega), uI_n (by omega), uI_n (by omega), uI_n (by omega), uI_n (by omega), uI_n (by omega), uI_n (by omega), poD_1 h8]
  have f3 : f (57 + 8 * b) = pi := by
    rw [hf]; unfold poF poE
    rw [uI_n (by omega), uI_n (by omega), uI_n (by omega), uI_n (by omega), uI_n (by omega), uI_s]
  have f4 : f (58 + 8 * b) = y := by
    rw [hf]; unfold poF poE
    rw [uI_n (by omega), uI_n (by omega), uI_n (by omega), uI_n (by omega), uI_s]
  have f5 : f (59 + 8 * b) = 0 := by
    rw [hf]; unfold poF poE
    rw [uI_n (by omega), uI_n (by omega), uI_n (by omega), uI_s]
  have f6 : f (60 + 8 * b) = st := by
    rw [hf]; unfold poF poE
    rw [uI_n (by omega), uI_n (by omega), uI_s]
  have fl : ∀ q, 8 ≤ q → q < 45 → f q = addA (drw (poK a b y) 6 s) 0 c1 (s - c1) q := fun q g1 g2 => by rw [fn q (by omega) (by omega), eD]
  have el : ∀ q, 8 ≤ q → q < 45 → drw (poK a b y) 6 s q = a q := fun q g1 g2 => by rw [drw_n (by omega) (by omega), poK_n (by omega) (by omega) (by omega)]
  have fm : f 6 = poK a b y 6 - c1 ∧ f 7 = poK a b y 7 - (s - c1) := by
    refine ⟨?_, ?_⟩
    · rw [fn 6 (by omega) (by omega), eD, addA_n d8 (by omega), drw_p, show 6 + 1 = 7 from rfl, ← hc1]
    · rw [fn 7 (by omega) (by omega), eD, addA_n d8 (by omega)]
      have := drw_p1 (a := poK a b y) (p := 6) (n := s)
      rw [show 6 + 1 = 7 from rfl, ← hc1] at this
      exact this
  have fs : f 4 = a 4 + sh (a 6) (a 45) ∧ f 5 = a 5 + sh (a 7) (a 46) := by
    have w4 : ∀ q, q = 4 ∨ q = 5 → f q = mv a 6 4 (sh (a 6) (a 45)) (sh (a 7) (a 46)) q := fun q hq => by
      rw [fn q (by omega) (by omega), eD, addA_n d8 (by omega), drw_n (by omega) (by omega)]
      unfold poK
      rw [uI_n (by omega), uI_n (by omega), uI_n (by omega), uI_n (by omega)]
    exact ⟨by rw [w4 4 (by omega)]; exact mv_q (by omega), by rw [w4 5 (by omega)]; exact mv_q1 (p := 6) (q := 4) (by omega)⟩
  have hls := lotS_add (a := drw (poK a b y) 6 s) (kd := 0) (c := c1) (t := s - c1) d8 q1 (by omega)
  rw [lotS_cg el h8.2 (m := 0) (by omega), lotS_cg el h8.2 (m := 1) (by omega)] at hls
  have dl : addA (drw (poK a b y) 6 s) 0 c1 (s - c1) 8 ≤ 12 := (addA_8 d8).2
  rw [← lotS_cg fl dl (m := 0) (by omega), ← lotS_cg fl dl (m := 1) (by omega)] at hls
  have hsn : ∀ m, m ≤ 1 → sntS f m = sntS a m := fun m hm => by
    unfold sntS
    rw [f52, hb, Int.toNat_natCast, Int.toNat_natCast, sm_s, sm_cg (f := bS f m (stP f 2)) (g := bS a m (stP a 2)) b (fun i hi => by unfold bS stP; rw [fo _ (by omega) (by omega) (by omega), fo _ (by omega) (by omega) (by omega)])]
    have : bS f m (stP f 2) b = 0 := by unfold bS stP; rw [f6, if_neg (by simp; omega)]
    omega
  have hbl : ∀ m, m ≤ 1 → belS f m = belS a m + f (54 + 8 * b + m) := fun m hm => by
    unfold belS
    rw [f52, hb, Int.toNat_natCast, Int.toNat_natCast, sm_s, sm_cg (f := bS f m (hereP f)) (g := bS a m (hereP a)) b (fun i hi => by unfold bS hereP; rw [fo _ (by omega) (by omega) (by omega), fo _ (by omega) (by omega) (by omega)])]
    have : bS f m (hereP f) b = f (54 + 8 * b + m) := by unfold bS hereP; rw [f6, if_pos (by simp; omega)]
    omega
  refine ⟨fun m hm => ?_, ?_, fun b' hb' => ?_, ?_⟩
  · have := h1 m hm
    unfold JM at this ⊢
    rw [hsn m hm, hbl m hm, fo (2 + m) (by omega) (by omega) (by omega), fo m (by omega) (by omega) (by omega)]
    have hm' : m = 0 ∨ m = 1 := by omega
    have e1 : bC a = a 6 - sh (a 6) (a 45) := rfl
    have e2 : bT a = a 7 - sh (a 7) (a 46) := rfl
    rcases hm' with rfl | rfl
    · rw [hls.1, Nat.add_zero, Nat.add_zero, Nat.add_zero, fm.1, fs.1, f0, k6]
      simp only [Nat.add_zero] at this
      omega
    · rw [hls.2, show 54 + 8 * b + 1 = 55 + 8 * b by omega, show 6 + 1 = 7 from rfl, show 4 + 1 = 5 from rfl, fm.2, fs.2, f1, k7]
      simp only [show 6 + 1 = 7 from rfl, show 4 + 1 = 5 from rfl] at this
      omega
  · have hl1 : JL (drw (poK a b y) 6 s) := h2.cg el h8.2
    exact (JL_add d8 q1 (by omega) hl1).cg fl dl
  · rw [f52, Int.toNat_natCast] at hb'
    by_cases d : b' = b
    · subst d
      unfold JB1
      rw [f0, f1, f3, f4, f5, f6]
      exact ⟨hpi, by omega, fun _ => by omega, fun q => by omega⟩
    · exact (h3 b' (by omega)).cg (fun q q1 q2 => fo q (by omega) (by omega) (by omega)) (fun o ho _ => ⟨by rw [fo 53 (by omega) (by omega) (by omega)]; exact ho, fun q q1 q2 => fo q (by omega) (by omega) (by omega)⟩)
  · unfold JS at h4 ⊢
    rw [f52, Int.toNat_natCast, fo 53 (by omega) (by omega) (by omega), cn_congr (P := orP f 1) (Q := orP a 1) (fun i hi => by unfold orP; rw [fo _ (by omega) (by omega) (by omega)]), h4, hb, Int.toNat_natCast, cn_f (by unfold stP; rw [f6]; simp; omega)]
    exact (cn_congr (fun i hi => by unfold stP; rw [fo _ (by omega) (by omega) (by omega)])).symm
