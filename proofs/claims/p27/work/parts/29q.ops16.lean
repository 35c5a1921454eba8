section
/-! The call pour. -/
def poK (a : Nat → Int) (b : Nat) (y : Int) : Nat → Int := uI (uI (uI (uI (mv a 6 4 (sh (a 6) (a 45)) (sh (a 7) (a 46))) (54 + 8 * b) (cin y (bC a) (bT a))) (55 + 8 * b) (y - cin y (bC a) (bT a))) 6 (bC a - cin y (bC a) (bT a))) 7 (bT a - (y - cin y (bC a) (bT a)))
def poD (a : Nat → Int) (b : Nat) (y : Int) : Nat → Int := dsc (poK a b y) 6 (sh y (a 49)) 0
def poE (a : Nat → Int) (b : Nat) (pf y pi st : Int) : Nat → Int := uI (uI (uI (uI (uI (uI (poD a b y) (56 + 8 * b) pf) (57 + 8 * b) pi) (58 + 8 * b) y) (59 + 8 * b) 0) (60 + 8 * b) st) (61 + 8 * b) (-4)
def poF (a : Nat → Int) (b : Nat) (pf y pi st : Int) : Nat → Int := uI (poE a b pf y pi st) 52 ((b : Int) + 1)
theorem r0_6 (a : Nat → Int) (l0 l1 : Int) : mv a 6 4 l0 l1 6 = a 6 - l0 := mv_p (by omega)
theorem r0_7 (a : Nat → Int) (l0 l1 : Int) : mv a 6 4 l0 l1 7 = a 7 - l1 := mv_p1 (p := 6) (by omega)
theorem r0_n {a : Nat → Int} {l0 l1 : Int} {q : Nat} (h : q < 4 ∨ 8 ≤ q) : mv a 6 4 l0 l1 q = a q := mv_n (by omega) (by omega) (by omega) (by omega) (by omega)
theorem poK_n {a : Nat → Int} {b q : Nat} {y : Int} (h : q < 4 ∨ 8 ≤ q) (h0 : q ≠ 54 + 8 * b) (h1 : q ≠ 55 + 8 * b) : poK a b y q = a q := by
  unfold poK; rw [uI_n (by omega), uI_n (by omega), uI_n h1, uI_n h0, r0_n h]
theorem poK_6 (a : Nat → Int) (b : Nat) (y : Int) : poK a b y 6 = bC a - cin y (bC a) (bT a) := by
  unfold poK; rw [uI_n (by omega), uI_s]
theorem poK_7 (a : Nat → Int) (b : Nat) (y : Int) : poK a b y 7 = bT a - (y - cin y (bC a) (bT a)) := by
  unfold poK; rw [uI_s]
theorem poK_0 (a : Nat → Int) (b : Nat) (y : Int) : poK a b y (54 + 8 * b) = cin y (bC a) (bT a) := by
  unfold poK; rw [uI_n (by omega), uI_n (by omega), uI_n (by omega), uI_s]
theorem poK_1 (a : Nat → Int) (b : Nat) (y : Int) : poK a b y (55 + 8 * b) = y - cin y (bC a) (bT a) := by
  unfold poK; rw [uI_n (by omega), uI_n (by omega), uI_s]
theorem poD_n {a : Nat → Int} {b q : Nat} {y : Int} (h8 : 0 ≤ a 8 ∧ a 8 ≤ 12) (h : q < 4 ∨ 45 ≤ q) (h0 : q ≠ 54 + 8 * b) (h1 : q ≠ 55 + 8 * b) : poD a b y q = a q := by
  unfold poD
  rw [dsc_n (by rw [poK_n (by omega) (by omega) (by omega)]; exact h8) (by omega) (by omega) (by omega) (by omega), poK_n (by omega) h0 h1]
theorem poD_0 {a : Nat → Int} {b : Nat} {y : Int} (h8 : 0 ≤ a 8 ∧ a 8 ≤ 12) : poD a b y (54 + 8 * b) = cin y (bC a) (bT a) := by
  unfold poD
  rw [dsc_n (by rw [poK_n (by omega) (by omega) (by omega)]; exact h8) (by omega) (by omega) (by omega) (by omega), poK_0]
theorem poD_1 {a : Nat → Int} {b : Nat} {y : Int} (h8 : 0 ≤ a 8 ∧ a 8 ≤ 12) : poD a b y (55 + 8 * b) = y - cin y (bC a) (bT a) := by
  unfold poD
  rw [dsc_n (by rw [poK_n (by omega) (by omega) (by omega)]; exact h8) (by omega) (by omega) (by omega) (by omega), poK_1]
theorem po_b {a : Nat → Int} {y : Int} (hm : BM a) (hs : BS a) (hy : 1 ≤ y) (hw : y + sh y (a 49) ≤ bC a + bT a) : 0 ≤ cin y (bC a) (bT a) ∧ cin y (bC a) (bT a) ≤ y ∧ cin y (bC a) (bT a) ≤ bC a ∧ y - cin y (bC a) (bT a) ≤ bT a ∧ 0 ≤ sh y (a 49) := by
  have hb := bC_b hm hs
  unfold BS at hs
  have h1 := sh_nn (p := y) (s := a 49) (by omega) (by omega)
  exact ⟨cin_nn (by omega) (by omega) (by omega), cin_le (by omega) (by omega) (by omega) (by omega), cin_lec (by omega) (by omega) (by omega) (by omega), cin_let (by omega) (by omega) (by omega) (by omega), h1⟩
theorem Bd_poF {k : Int} {a : Nat → Int} {b : Nat} {pf y pi st : Int} (h : Bd k a) (hb : a 52 = b) (h100 : b < 100) (hN : hereN a ≠ 12) (hpf : 0 ≤ pf ∧ pf ≤ 3) (hy : 1 ≤ y) (hy2 : y ≤ 10000) (hpi : 0 ≤ pi ∧ pi ≤ 2000000) (hst : 0 ≤ st ∧ st ≤ 1) (hw : y + sh y (a 49) ≤ bC a + bT a) : Bd (k + 1) (poF a b pf y pi st) := by
  obtain ⟨h1, h2, h3, h4, h5, h6, h7⟩ := h
  have hk := BL_k (h3 0 (by omega))
  have hbb := bC_b h1 h2
  have hp := po_b h1 h2 hy hw
  have h2' := h2
  have h1' := h1
  unfold BM at h1
  unfold BS at h2'
  have hs1 := sh_le (p := y) (s := a 49) (by omega) (by omega) (by omega)
  have h8 : 0 ≤ a 8 ∧ a 8 ≤ 12 := by omega
  obtain ⟨f, hf⟩ : ∃ f, f = poF a b pf y pi st := ⟨_, rfl⟩
  rw [← hf]
  have fn : ∀ q, q ≠ 52 → (q < 54 + 8 * b ∨ 62 + 8 * b ≤ q) → f q = poD a b y q := fun q q1 q2 => by
    rw [hf]; unfold poF poE
    rw [uI_n q1, uI_n (by omega), uI_n (by omega), uI_n (by omega), uI_n (by omega), uI_n (by omega), uI_n (by omega)]
  have f52 : f 52 = b + 1 := by rw [hf]; unfold poF; rw [uI_s]
  have f0 : f (54 + 8 * b) = cin y (bC a) (bT a) := by
    rw [hf]; unfold poF poE
    rw [uI_n (by omega), uI_n (by omega), uI_n (by omega), uI_n (by omega), uI_n (by omega), uI_n (by omega), uI_n (by omega), poD_0 h8]
  have f1 : f (55 + 8 * b) = y - cin y (bC a) (bT a) := by
    rw [hf]; unfold poF poE
    rw [uI_n (by omega), uI_n (by omega), uI_n (by omega), uI_n (by omega), uI_n (by omega), uI_n (by omega), uI_n (by omega), poD_1 h8]
  have f2 : f (56 + 8 * b) = pf := by
    rw [hf]; unfold poF poE
    rw [uI_n (by omega), uI_n (by omega), uI_n (by omega), uI_n (by omega), uI_n (by omega), uI_n (by omega), uI_s]
  have f3 : f (57 + 8 * b) = pi := by
    rw [hf]; unfold poF poE
    rw [uI_n (by omega), uI_n (by omega), uI_n (by omega), uI_n (by omega), uI_n (by omega), uI_s]
  have f4 : f (58 + 8 * b) = y := by
    rw [hf]; unfold poF poE
    rw [uI_n (by omega), uI_n (by omega), uI_n (by omega), uI_n (by omega), uI_s]
  have f5 : f (59 + 8 * b) = 0 := by
    rw [hf]; unfold poF poE
    rw [uI_n (by omega), uI_n (by omega), uI_n (by omega), uI_s]
  have f6 : f (60 + 8 * b) = st := by
    rw [hf]; unfold poF poE
    rw [uI_n (by omega), uI_n (by omega), uI_s]
  have f7 : f (61 + 8 * b) = -4 := by
    rw [hf]; unfold poF poE
    rw [uI_n (by omega), uI_s]
  have fa : ∀ q, q ≠ 52 → (q < 4 ∨ 45 ≤ q) → (q < 54 + 8 * b ∨ 62 + 8 * b ≤ q) → f q = a q := fun q q1 q2 q3 => by
    rw [fn q q1 q3, poD_n h8 q2 (by omega) (by omega)]
  have ec := cin_nn (n := sh y (a 49)) (c := poK a b y 6) (t := poK a b y 7) (by omega) (by rw [poK_6]; omega) (by rw [poK_7]; omega)
  have ec2 := cin_le (n := sh y (a 49)) (c := poK a b y 6) (t := poK a b y 7) (by omega) (by rw [poK_6]; omega) (by rw [poK_7]; omega) (by rw [poK_6, poK_7]; omega)
  have ec3 := cin_lec (n := sh y (a 49)) (c := poK a b y 6) (t := poK a b y 7) (by omega) (by rw [poK_6]; omega) (by rw [poK_7]; omega) (by rw [poK_6, poK_7]; omega)
  have ec4 := cin_let (n := sh y (a 49)) (c := poK a b y 6) (t := poK a b y 7) (by omega) (by rw [poK_6]; omega) (by rw [poK_7]; omega) (by rw [poK_6, poK_7]; omega)
  have k8 : drw (poK a b y) 6 (sh y (a 49)) 8 = a 8 := by rw [drw_n (by omega) (by omega), poK_n (by omega) (by omega) (by omega)]
  have d6 : poD a b y 6 = poK a b y 6 - cin (sh y (a 49)) (poK a b y 6) (poK a b y 7) := by
    unfold poD dsc
    rw [addA_n (by rw [k8]; exact h8) (by omega), drw_p]
  have d7 : poD a b y 7 = poK a b y 7 - (sh y (a 49) - cin (sh y (a 49)) (poK a b y 6) (poK a b y 7)) := by
    unfold poD dsc
    rw [addA_n (by rw [k8]; exact h8) (by omega)]
    exact drw_p1 (p := 6)
  have d8 : 0 ≤ poD a b y 8 ∧ poD a b y 8 ≤ 12 := by
    unfold poD dsc
    exact addA_8 (by rw [k8]; exact h8)
  refine ⟨?_, h2.congr (fun q q1 q2 => fa q (by omega) (by omega) (by omega)), fun i hi => ?_, fun b' hb' => ?_, fun o ho => ?_, ?_, ?_⟩
  · unfold BM
    rw [fa 0 (by omega) (by omega) (by omega), fa 1 (by omega) (by omega) (by omega), fn 6 (by omega) (by omega), fn 7 (by omega) (by omega), fn 8 (by omega) (by omega), f52, fa 53 (by omega) (by omega) (by omega), d6, d7]
    rw [poK_6, poK_7] at *
    omega
  · have hl : ∀ i, i < 12 → BL k (drw (poK a b y) 6 (sh y (a 49))) i := fun i hi => (h3 i hi).congr (fun q q1 q2 => by rw [drw_n (by omega) (by omega), poK_n (by omega) (by omega) (by omega)])
    have := BL_add (kd := 0) (c := cin (sh y (a 49)) (poK a b y 6) (poK a b y 7)) (t := sh y (a 49) - cin (sh y (a 49)) (poK a b y 6) (poK a b y 7)) (by rw [k8]; exact h8) hl hk (by omega) (by omega) (by omega) (by omega) i hi
    exact this.congr (fun q q1 q2 => fn q (by omega) (by omega))
  · rw [f52] at hb'
    by_cases e : b' = b
    · subst e
      unfold BB
      rw [f0, f1, f2, f3, f4, f5, f6, f7]
      omega
    · have h9 := h4 b' (by omega)
      have h10 : BB (k + 1) a b' := by
        unfold BB at h9 ⊢
        obtain ⟨q1, q2, q3, q4, q5, q6⟩ := h9
        exact ⟨q1, q2, q3, q4, ⟨q5.1, by omega⟩, q6⟩
      exact h10.congr (fun q q1 q2 => fa q (by omega) (by omega) (by omega))
  · rw [fa 53 (by omega) (by omega) (by omega)] at ho
    exact (h5 o ho).congr (fun q q1 q2 => fa q (by omega) (by omega) (by omega))
  · unfold hereN at h6 hN ⊢
    rw [f52, show ((b : Int) + 1).toNat = b + 1 by omega]
    rw [hb, Int.toNat_natCast] at h6 hN
    have e := cn_congr (P := hereP f) (Q := hereP a) (n := b) (fun i hi => by unfold hereP; rw [fa _ (by omega) (by omega) (by omega)])
    unfold cn
    rw [e]
    split <;> omega
  · unfold openN at h7 ⊢
    rw [fa 53 (by omega) (by omega) (by omega), cn_congr (Q := openP a) (fun i hi => by unfold openP; rw [fa _ (by omega) (by omega) (by omega)])]
    exact h7
end
