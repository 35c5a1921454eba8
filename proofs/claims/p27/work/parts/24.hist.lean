/-! Keeping and bringing back. -/
theorem sg_sg (M : MM) (k : Nat) (w w' : Nat → Int32) : sg (sg M k w) k w' = sg M k w' := by
  funext G
  by_cases h : G = k
  · subst h; rw [sg_s, sg_s]
  · rw [sg_n h, sg_n h, sg_n h]
theorem keepS {M : MM} {k : Int} {a : Nat → Int} {n : Nat} {H : Nat → Nat → Int} (hn : n < 4) (R : RA (M 0) (M 40) (M 50) a) (B : Bd k a) (BH : ∀ i, i < n → Bd k (H i)) (h : HC M n H) : ∃ M1, bnd2 (f_X9_copyFrom M (pm (M 35) n) 0) (fun _ M5 => letB (up2 M5 6 0 ((M5 6 0) + (1))) fun M7 => some ((), M7)) = some ((), M1) ∧ HC M1 (n + 1) (fun i => if i = n then a else H i) ∧ (∀ G, G ≠ 6 → ¬(1 ≤ G ∧ G < 5) → ¬(41 ≤ G ∧ G < 45) → M1 G = M G) := by
  obtain ⟨g1, g2, g3, g4, g5, g6⟩ := h
  have p1 := g3 n hn
  obtain ⟨M1, e1, r1, f1⟩ := copy_ok (M := M) (k := pm (M 35) n) (k2 := 0) p1.2 (by omega) (by omega) (RA_RC R B) (g5 _ p1.2)
  refine ⟨up2 M1 6 0 ((M1 6 0) + 1), by rw [e1]; rfl, ?_, ?_⟩
  · have s35 : up2 M1 6 0 ((M1 6 0) + 1) 35 = M 35 := by rw [up2_gn (by omega), f1 35 (by omega) (by omega)]
    have s6 : M1 6 = M 6 := f1 6 (by omega) (by omega)
    refine ⟨?_, by omega, by rw [s35]; exact g3, by rw [s35]; exact g4, fun k hk => ?_, fun i hi => ?_⟩
    · rw [up2_eq, s6, g1, Z1, iI_add]; rfl
    · rw [up2_gn (by omega), f1 (50 + k) (by omega) (by omega)]; exact g5 k hk
    · rw [s35]
      have p2 := g3 i (by omega)
      rw [up2_gn (by omega), up2_gn (by omega), up2_gn (by omega)]
      by_cases e : i = n
      · subst e
        simp only [if_pos]
        exact RC_RA r1 B
      · simp only [if_neg e]
        have hne : pm (M 35) i ≠ pm (M 35) n := fun q => e (g4 i n (by omega) hn q)
        rw [f1 (pm (M 35) i) hne (by omega), f1 (40 + pm (M 35) i) (by omega) (by omega), f1 (50 + pm (M 35) i) (by omega) (by omega)]
        exact g6 i (by omega)
  · intro G q1 q2 q3
    rw [up2_gn q1, f1 G (by omega) (by omega)]
theorem e_drop {M : MM} (h : ∀ i, i < 4 → pm (M 35) i < 5) : f_X3_dropOldest M = some ((), up2 (sg M 35 (upd (upd (upd (upd (M 35) 0 (M 35 1)) 1 (M 35 2)) 2 (M 35 3)) 3 (M 35 0))) 6 0 3) := by
  have h0 : (M 35 0).toNatClampNeg < 5 := h 0 (by omega)
  have h1 : (M 35 1).toNatClampNeg < 5 := h 1 (by omega)
  have h2 : (M 35 2).toNatClampNeg < 5 := h 2 (by omega)
  have h3 : (M 35 3).toNatClampNeg < 5 := h 3 (by omega)
  obtain ⟨w, hw⟩ : ∃ w, M = sg M 35 w := ⟨M 35, (sg_id M 35).symm⟩
  have hw2 : M 35 = w := by rw [hw, sg_s]
  unfold f_X3_dropOldest
  obtain ⟨fu, hfu⟩ : ∃ fu, FU = fu + 1 + 1 + 1 + 1 := ⟨19996, rfl⟩
  rw [hfu]
  rw [hw2] at h0 h1 h2 h3 ⊢
  have v0 : vin (0 : Int32) 4 := by decide
  have v1 : vin (1 : Int32) 4 := by decide
  have v2 : vin (2 : Int32) 4 := by decide
  have v3 : vin (3 : Int32) 4 := by decide
  have t0 : (0 : Int32).toNatClampNeg = 0 := by decide
  have t1 : (1 : Int32).toNatClampNeg = 1 := by decide
  have t2 : (2 : Int32).toNatClampNeg = 2 := by decide
  have t3 : (3 : Int32).toNatClampNeg = 3 := by decide
  have c1 : ¬ (4 : Int32) ≤ 1 := by decide
  have c2 : ¬ (4 : Int32) ≤ 2 := by decide
  have c3 : ¬ (4 : Int32) ≤ 3 := by decide
  have c4 : (4 : Int32) ≤ 4 := by decide
  have a1 : (1 : Int32) + 1 = 2 := by decide
  have a2 : (2 : Int32) + 1 = 3 := by decide
  have a3 : (3 : Int32) + 1 = 4 := by decide
  have m1 : (1 : Int32) - 1 = 0 := by decide
  have m2 : (2 : Int32) - 1 = 1 := by decide
  have m3 : (3 : Int32) - 1 = 2 := by decide
  have m4 : (4 : Int32) - 1 = 3 := by decide
  rw [hw]
  simp only [lp_X3_dropOldest_9, if_pos v0, if_pos v1, if_pos v2, if_pos v3, t0, t1, t2, t3, if_neg c1, if_neg c2, if_neg c3, if_pos c4, a1, a2, a3, m1, m2, m3, m4, sg_s, up2_sg, letB_e, upd_s, if_pos h0]
  have n21 : upd w 0 (w 1) 2 = w 2 := upd_n (by omega)
  have n32 : upd (upd w 0 (w 1)) 1 (w 2) 3 = w 3 := by rw [upd_n (by omega), upd_n (by omega)]
  simp only [n21, n32, if_pos h1, if_pos h2, if_pos h3, sg_sg]
theorem c_keep {M : MM} {k : Int} {a : Nat → Int} {n : Nat} {H : Nat → Nat → Int} {L : Nat} {t : Nat → Int} (vc : VC M a n H L t) (B : VB k a n H L t) : ∃ M1, f_X3_keep M 0 = some ((), M1) ∧ VC M1 a (pN n) (pH n H a) L t ∧ (∀ G, G ≠ 6 → G ≠ 35 → ¬(1 ≤ G ∧ G < 5) → ¬(41 ≤ G ∧ G < 45) → M1 G = M G) := by
  obtain ⟨R, hc, x1, x2⟩ := vc
  obtain ⟨B1, B2, B3, B4⟩ := B
  have hc' := hc
  obtain ⟨g1, g2, g3, g4, g5, g6⟩ := hc
  have fin : ∀ M1, HC M1 (pN n) (pH n H a) → (∀ G, G ≠ 6 → G ≠ 35 → ¬(1 ≤ G ∧ G < 5) → ¬(41 ≤ G ∧ G < 45) → M1 G = M G) → VC M1 a (pN n) (pH n H a) L t := fun M1 q1 q2 => ⟨by rw [q2 0 (by omega) (by omega) (by omega) (by omega), q2 40 (by omega) (by omega) (by omega) (by omega), q2 50 (by omega) (by omega) (by omega) (by omega)]; exact R, q1, by rw [q2 5 (by omega) (by omega) (by omega) (by omega)]; exact x1, by rw [q2 14 (by omega) (by omega) (by omega) (by omega)]; exact x2⟩
  unfold f_X3_keep
  by_cases e : n = 4
  · subst e
    have c : ¬ M 6 0 < (4 : Int32) := by rw [g1, Z4, iI_lt (by omega) (by omega)]; omega
    rw [if_neg c, e_drop (fun i hi => (g3 i hi).2), bnd2_s]
    obtain ⟨M9, h9⟩ : ∃ M9, M9 = up2 (sg M 35 (upd (upd (upd (upd (M 35) 0 (M 35 1)) 1 (M 35 2)) 2 (M 35 3)) 3 (M 35 0))) 6 0 3 := ⟨_, rfl⟩
    rw [← h9]
    have f9 : ∀ G, G ≠ 6 → G ≠ 35 → M9 G = M G := fun G q1 q2 => by rw [h9, up2_gn q1, sg_n q2]
    have m6 : M9 6 0 = iI 3 := by rw [h9, up2_eq]; rfl
    have m35 : M9 35 = upd (upd (upd (upd (M 35) 0 (M 35 1)) 1 (M 35 2)) 2 (M 35 3)) 3 (M 35 0) := by rw [h9, up2_gn (by omega), sg_s]
    have q35 : ∀ i, i < 3 → pm (M9 35) i = pm (M 35) (i + 1) := by
      intro i hi
      unfold pm
      rw [m35]
      have : i = 0 ∨ i = 1 ∨ i = 2 := by omega
      rcases this with rfl | rfl | rfl
      · rw [upd_n (by omega), upd_n (by omega), upd_n (by omega), upd_s]
      · rw [upd_n (by omega), upd_n (by omega), upd_s]
      · rw [upd_n (by omega), upd_s]
    have q353 : pm (M9 35) 3 = pm (M 35) 0 := by unfold pm; rw [m35, upd_s]
    have r9 : HC M9 3 (fun i => H (i + 1)) := by
      have rng : ∀ i, i < 4 → 1 ≤ pm (M9 35) i ∧ pm (M9 35) i < 5 := by
        intro i hi
        by_cases e3 : i = 3
        · rw [e3, q353]; exact g3 0 (by omega)
        · rw [q35 i (by omega)]; exact g3 (i + 1) (by omega)
      refine ⟨m6, by omega, rng, fun i j hi hj => ?_, fun k hk => by rw [f9 _ (by omega) (by omega)]; exact g5 k hk, fun i hi => ?_⟩
      · by_cases e3 : i = 3
        · by_cases e4 : j = 3
          · intro _; omega
          · rw [e3, q353, q35 j (by omega)]
            intro q; have := g4 0 (j + 1) (by omega) (by omega) q; omega
        · by_cases e4 : j = 3
          · rw [e4, q353, q35 i (by omega)]
            intro q; have := g4 (i + 1) 0 (by omega) (by omega) q; omega
          · rw [q35 i (by omega), q35 j (by omega)]
            intro q; have := g4 (i + 1) (j + 1) (by omega) (by omega) q; omega
      · have r0 := rng i (by omega)
        rw [f9 (pm (M9 35) i) (by omega) (by omega), f9 (40 + pm (M9 35) i) (by omega) (by omega), f9 (50 + pm (M9 35) i) (by omega) (by omega), q35 i hi]
        exact g6 (i + 1) (by omega)
    obtain ⟨M1, k1, k2, k3⟩ := keepS (M := M9) (n := 3) (a := a) (by omega) (by rw [f9 0 (by omega) (by omega), f9 40 (by omega) (by omega), f9 50 (by omega) (by omega)]; exact R) B1 (fun i hi => B3 (i + 1) (by omega)) r9
    have t3 : (iI 3 : Int32).toNatClampNeg = 3 := by decide
    have v3 : vin (iI 3 : Int32) 4 := by decide
    have l3 : (M9 35 3).toNatClampNeg < 5 := (r9.2.2.1 3 (by omega)).2
    have fr : ∀ G, G ≠ 6 → G ≠ 35 → ¬(1 ≤ G ∧ G < 5) → ¬(41 ≤ G ∧ G < 45) → M1 G = M G := fun G q1 q2 q3 q4 => (k3 G q1 q3 q4).trans (f9 G q1 q2)
    refine ⟨M1, ?_, fin M1 ?_ fr, fr⟩
    · simp only [m6, if_pos v3, t3, if_pos l3]
      exact k1
    · have e1 : pH 4 H a = fun i => if i = 3 then a else H (i + 1) := by unfold pH; simp
      have e2 : pN 4 = 3 + 1 := by unfold pN; simp
      rw [e1, e2]
      exact k2
  · have hn : n < 4 := by omega
    have c : M 6 0 < (4 : Int32) := by rw [g1, Z4, iI_lt (by omega) (by omega)]; omega
    obtain ⟨M1, k1, k2, k3⟩ := keepS (M := M) (n := n) (a := a) hn R B1 B3 hc'
    have tn : (iI n : Int32).toNatClampNeg = n := by rw [iI_nat (by omega)]; omega
    have vn : vin (iI n : Int32) 4 := (iI_vin (by omega) (by omega)).mpr (by omega)
    have ln : (M 35 n).toNatClampNeg < 5 := (g3 n hn).2
    have fr : ∀ G, G ≠ 6 → G ≠ 35 → ¬(1 ≤ G ∧ G < 5) → ¬(41 ≤ G ∧ G < 45) → M1 G = M G := fun G q1 q2 q3 q4 => k3 G q1 q3 q4
    refine ⟨M1, ?_, fin M1 ?_ fr, fr⟩
    · rw [if_pos c]
      simp only [g1, if_pos vn, tn, if_pos ln]
      exact k1
    · have e1 : pH n H a = fun i => if i = n then a else H i := by unfold pH; simp [e]
      have e2 : pN n = n + 1 := by unfold pN; simp [e]
      rw [e1, e2]
      exact k2
def lowA (a b : Nat → Int) : Nat → Int := fun q => if q < 1254 then a q else b q
theorem Bd.low {k : Int} {a b : Nat → Int} (h : Bd k a) : Bd k (lowA a b) := by
  have e : ∀ q, q < 1254 → lowA a b q = a q := fun q hq => by unfold lowA; rw [if_pos hq]
  obtain ⟨h1, h2, h3, h4, h5, h6, h7⟩ := h
  have h1' := h1
  unfold BM at h1'
  have e52 := e 52 (by omega)
  have e53 := e 53 (by omega)
  refine ⟨?_, ?_, fun i hi => ?_, fun b' hb => ?_, fun o ho => ?_, ?_, ?_⟩
  · unfold BM at h1 ⊢
    rw [e 0 (by omega), e 1 (by omega), e 6 (by omega), e 7 (by omega), e 8 (by omega), e52, e53]
    exact h1
  · unfold BS at h2 ⊢
    rw [e 45 (by omega), e 46 (by omega), e 47 (by omega), e 48 (by omega), e 49 (by omega), e 50 (by omega), e 51 (by omega)]
    exact h2
  · have := h3 i hi
    unfold BL at this ⊢
    rw [e (9 + 3 * i) (by omega), e (10 + 3 * i) (by omega), e (11 + 3 * i) (by omega)]
    exact this
  · rw [e52] at hb
    have := h4 b' hb
    unfold BB at this ⊢
    rw [e (54 + 8 * b') (by omega), e (55 + 8 * b') (by omega), e (56 + 8 * b') (by omega), e (57 + 8 * b') (by omega), e (58 + 8 * b') (by omega), e (59 + 8 * b') (by omega), e (60 + 8 * b') (by omega), e (61 + 8 * b') (by omega)]
    exact this
  · rw [e53] at ho
    have := h5 o ho
    unfold BO at this ⊢
    rw [e (854 + 4 * o) (by omega), e (855 + 4 * o) (by omega), e (856 + 4 * o) (by omega), e (857 + 4 * o) (by omega)]
    exact this
  · unfold hereN at h6 ⊢
    rw [e52, cn_congr (Q := hereP a) (fun i hi => by unfold hereP; rw [e _ (by omega)])]
    exact h6
  · unfold openN at h7 ⊢
    rw [e53, cn_congr (Q := openP a) (fun i hi => by unfold openP; rw [e _ (by omega)])]
    exact h7
theorem RA.low {k : Int} {w st r : Nat → Int32} {a b : Nat → Int} (h : RA w st r a) (B : Bd k a) : RA w st r (lowA a b) := by
  have e : ∀ q, q < 1254 → lowA a b q = a q := fun q hq => by unfold lowA; rw [if_pos hq]
  have h1' := B.1
  unfold BM at h1'
  obtain ⟨r1, r9, r2, r3, r4, r5, r6, r7, r8⟩ := h
  have e52 := e 52 (by omega)
  have e53 := e 53 (by omega)
  have e8 := e 8 (by omega)
  refine ⟨r1, by rw [e8, e52, e53]; exact r9, fun q hq => by rw [e q (by omega)]; exact r2 q hq, fun j hj => by rw [e _ (by omega)]; exact r3 j hj, by rw [e52]; exact r4, by rw [e53]; exact r5, fun i hi f hf => ?_, fun b' hb => ⟨fun f hf => ?_, fun hs => ?_⟩, fun o ho f hf => ?_⟩
  · rw [e8] at hi; rw [e _ (by omega)]; exact r6 i hi f hf
  · rw [e52] at hb; rw [e _ (by omega)]; exact (r7 b' hb).1 f hf
  · rw [e52] at hb; rw [e _ (by omega)] at hs ⊢; exact (r7 b' hb).2 hs
  · rw [e53] at ho; rw [e _ (by omega)]; exact r8 o ho f hf
theorem c_restore {M : MM} {k : Int} {a : Nat → Int} {n : Nat} {H : Nat → Nat → Int} {L : Nat} {t : Nat → Int} (hn : 0 < n) (vc : VC M a n H L t) (B : VB k a n H L t) : ∃ M1, f_X3_restore M 0 = some ((), M1) ∧ VC M1 (lowA (H (n - 1)) a) (n - 1) H L t ∧ FC M M1 := by
  obtain ⟨R, ⟨g1, g2, g3, g4, g5, g6⟩, x1, x2⟩ := vc
  obtain ⟨B1, B2, B3, B4⟩ := B
  obtain ⟨m, rfl⟩ : ∃ m, n = m + 1 := ⟨n - 1, by omega⟩
  rw [Nat.add_sub_cancel]
  have g1' : M 6 0 - 1 = iI m := by rw [g1, Z1, iI_sub]; congr 1; omega
  have p := g3 m (by omega)
  obtain ⟨M2, h2⟩ : ∃ M2, M2 = up2 M 6 0 (iI m) := ⟨_, rfl⟩
  have f2 : ∀ G, G ≠ 6 → M2 G = M G := fun G q => by rw [h2, up2_gn q]
  have s6 : M2 6 0 = iI m := by rw [h2, up2_eq]
  have hB := B3 m (by omega)
  obtain ⟨M1, e1, r1, f1⟩ := copy_ok (M := M2) (k := 0) (k2 := pm (M 35) m) (by omega) p.2 (by omega) (RA_RC (by rw [f2 _ (by omega), f2 (40 + pm (M 35) m) (by omega), f2 (50 + pm (M 35) m) (by omega)]; exact g6 m (by omega)) hB) (by rw [f2 _ (by omega)]; exact g5 0 (by omega))
  have F1 : ∀ G, G ≠ 0 → G ≠ 40 → G ≠ 6 → M1 G = M G := fun G q1 q2 q3 => (f1 G q1 q2).trans (f2 G q3)
  refine ⟨M1, ?_, ⟨(RC_RA r1 hB).low hB, ⟨?_, by omega, ?_, ?_, ?_, ?_⟩, ?_, ?_⟩, fun G q1 q2 => F1 G (by omega) (by omega) (by omega)⟩
  · unfold f_X3_restore
    have c : (1 : Int32) ≤ M 6 0 := by rw [g1, Z1, iI_le (by omega) (by omega)]; omega
    have v : vin (iI m : Int32) 4 := (iI_vin (by omega) (by omega)).mpr (by omega)
    have tn : (iI m : Int32).toNatClampNeg = m := by rw [iI_nat (by omega)]; omega
    have l : (M 35 m).toNatClampNeg < 5 := p.2
    rw [if_pos c, g1', letB_e, ← h2]
    simp only [s6, if_pos v, tn, f2 35 (by omega), if_pos l]
    rw [show (M 35 m).toNatClampNeg = pm (M 35) m from rfl, e1]
    rfl
  · rw [f1 6 (by omega) (by omega)]; exact s6
  · rw [F1 35 (by omega) (by omega) (by omega)]; exact g3
  · rw [F1 35 (by omega) (by omega) (by omega)]; exact g4
  · intro k hk; rw [F1 _ (by omega) (by omega) (by omega)]; exact g5 k hk
  · intro i hi
    have p2 := g3 i (by omega)
    rw [F1 35 (by omega) (by omega) (by omega), F1 (pm (M 35) i) (by omega) (by omega) (by omega), F1 (40 + pm (M 35) i) (by omega) (by omega) (by omega), F1 (50 + pm (M 35) i) (by omega) (by omega) (by omega)]
    exact g6 i (by omega)
  · rw [F1 5 (by omega) (by omega) (by omega)]; exact x1
  · rw [F1 14 (by omega) (by omega) (by omega)]; exact x2
theorem FUs : ∃ f, FU = f + 1 := ⟨19999, rfl⟩
