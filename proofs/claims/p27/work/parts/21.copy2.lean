def hpS (w u : Nat → Int32) (r r2 : Nat) : Nat → Int32 := upd (upd (upd w (9 + 3 * r) (u (9 + 3 * r2))) (9 + 3 * r + 1) (u (9 + 3 * r2 + 1))) (11 + 3 * r) (u (11 + 3 * r2))
theorem hpS_in (w u : Nat → Int32) (r r2 f : Nat) (hf : f < 3) : hpS w u r r2 (9 + 3 * r + f) = u (9 + 3 * r2 + f) := by
  unfold hpS upd
  have h : f = 0 ∨ f = 1 ∨ f = 2 := by omega
  rcases h with rfl | rfl | rfl
  · rw [if_neg (by omega), if_neg (by omega), if_pos (by omega)]; rfl
  · rw [if_neg (by omega), if_pos (by omega), show 9 + 3 * r2 + 1 = 9 + 3 * r2 + 1 from rfl]
  · rw [if_pos (by omega), show 11 + 3 * r2 = 9 + 3 * r2 + 2 by omega]
theorem hpS_out {w u : Nat → Int32} {r r2 q : Nat} (h : q < 9 + 3 * r ∨ 12 + 3 * r ≤ q) : hpS w u r r2 q = w q := by
  unfold hpS upd
  rw [if_neg (by omega), if_neg (by omega), if_neg (by omega)]
def cpL (u : Nat → Int32) (p p2 : Nat → Nat) : Nat → Nat → (Nat → Int32) → (Nat → Int32)
  | _, 0, w => w
  | i, j + 1, w => cpL u p p2 (i + 1) j (hpS w u (p i) (p2 i))
theorem cpL_keep {u : Nat → Int32} {p p2 : Nat → Nat} {q : Nat} : ∀ (j i : Nat) (w : Nat → Int32), (∀ a, i ≤ a → a < i + j → q < 9 + 3 * p a ∨ 12 + 3 * p a ≤ q) → cpL u p p2 i j w q = w q := by
  intro j
  induction j with
  | zero => intro i w h; rfl
  | succ j ih =>
    intro i w h
    show cpL u p p2 (i + 1) j _ q = _
    rw [ih (i + 1) _ (fun a h1 h2 => h a (by omega) (by omega)), hpS_out (h i (Nat.le_refl _) (by omega))]
theorem cpL_in {u : Nat → Int32} {p p2 : Nat → Nat} {N : Nat} (hinj : ∀ a b, a < N → b < N → p a = p b → a = b) {a f : Nat} (hf : f < 3) : ∀ (j i : Nat) (w : Nat → Int32), i + j ≤ N → i ≤ a → a < i + j → cpL u p p2 i j w (9 + 3 * p a + f) = u (9 + 3 * p2 a + f) := by
  intro j
  induction j with
  | zero => intro i w h h1 h2; omega
  | succ j ih =>
    intro i w h h1 h2
    show cpL u p p2 (i + 1) j _ _ = _
    by_cases e : a = i
    · subst e
      rw [cpL_keep j (a + 1) _ (fun b h3 h4 => ?_), hpS_in _ _ _ _ _ hf]
      have : p b ≠ p a := fun q => by have := hinj b a (by omega) (by omega) q; omega
      omega
    · exact ih (i + 1) _ (by omega) (by omega) (by omega)
def pm (r : Nat → Int32) : Nat → Nat := fun i => (r i).toNatClampNeg
def PM (r : Nat → Int32) : Prop := (∀ i, i < 12 → pm r i < 12) ∧ ∀ a b, a < 12 → b < 12 → pm r a = pm r b → a = b
theorem l_lots {M : MM} {k k2 n : Nat} (hk : k < 5) (h : k2 ≠ k) (hn : n ≤ 12) (h1 : PM (M (50 + k))) (h2 : PM (M (50 + k2))) : ∀ (j fu i : Nat) (w : Nat → Int32), i + j = n → j < fu → w 8 = nI n → lp_X2_copyFrom_10 fu (sg M k w) k k2 (nI i) = some ((), sg M k (cpL (M k2) (pm (M (50 + k))) (pm (M (50 + k2))) i j w)) := by
  intro j
  induction j with
  | zero =>
    intro fu i w hi hf hw
    obtain ⟨f, rfl⟩ : ∃ f, fu = f + 1 := ⟨fu - 1, by omega⟩
    obtain rfl : i = n := by omega
    unfold lp_X2_copyFrom_10
    rw [sg_s, hw, if_pos (nI_le (Nat.le_refl _) (by omega))]
    rfl
  | succ j ih =>
    intro fu i w hi hf hw
    obtain ⟨f, rfl⟩ : ∃ f, fu = f + 1 := ⟨fu - 1, by omega⟩
    unfold lp_X2_copyFrom_10
    have g1 : (M (50 + k) i).toNatClampNeg < 12 := h1.1 i (by omega)
    have g2 : (M (50 + k2) i).toNatClampNeg < 12 := h2.1 i (by omega)
    have s1 : ∀ w', sg M k w' (50 + k) = M (50 + k) := fun w' => sg_n (by omega)
    have v1 : vin (nI i) 12 := vin_nI (by omega) (by decide)
    have hkk : 50 + k2 ≠ k := by omega
    have hw' : hpS w (M k2) (pm (M (50 + k)) i) (pm (M (50 + k2)) i) 8 = nI n := by rw [hpS_out (by omega)]; exact hw
    have h9 := ih f (i + 1) _ (by omega) (by omega) hw'
    have e0 : (nI i : Int32).toNatClampNeg = i := nI_clamp (by omega)
    simp only [sg_s, hw, if_neg (nI_ge (show i < n by omega) (by omega)), if_pos v1, e0, s1, if_pos g1, sg_n hkk, if_pos g2, e_mixCopy h, bnd2_s, letB_e, sg_n h, up2_sg, nI_1]
    exact h9
def RC (w st r v : Nat → Int32) : Prop := PM r ∧ (∀ q, q < 9 → w q = v q) ∧ (∀ j, j < 7 → st j = v (45 + j)) ∧ w 52 = v 52 ∧ w 53 = v 53 ∧ (∃ n, n ≤ 12 ∧ v 8 = nI n ∧ ∀ i, i < n → ∀ f, f < 3 → w (9 + 3 * pm r i + f) = v (9 + 3 * i + f)) ∧ (∃ n, n ≤ 100 ∧ v 52 = nI n ∧ ∀ b, b < n → (∀ f, f < 7 → w (54 + 8 * b + f) = v (54 + 8 * b + f)) ∧ (v (60 + 8 * b) = 2 → w (61 + 8 * b) = v (61 + 8 * b)) ∧ (v (60 + 8 * b) ≠ 2 → v (61 + 8 * b) = -4)) ∧ (∃ n, n ≤ 100 ∧ v 53 = nI n ∧ ∀ o, o < n → ∀ f, f < 4 → w (854 + 4 * o + f) = v (854 + 4 * o + f))
theorem cpyS_n {M : MM} {k k' G : Nat} (h : G ≠ 40 + k') : cpyS M k k' G = M G := by
  unfold cpyS
  rw [up2_gn h, up2_gn h, up2_gn h, up2_gn h, up2_gn h, up2_gn h, up2_gn h]
theorem cpyS_s (M : MM) (k k' : Nat) {j : Nat} (h : j < 7) : cpyS M k k' (40 + k') j = M (40 + k) j := by
  unfold cpyS
  simp only [up2_gr, upd]
  have h2 : j = 0 ∨ j = 1 ∨ j = 2 ∨ j = 3 ∨ j = 4 ∨ j = 5 ∨ j = 6 := by omega
  rcases h2 with rfl | rfl | rfl | rfl | rfl | rfl | rfl <;> simp
theorem cpyS_sg {M : MM} {k k2 : Nat} {w : Nat → Int32} (hk : k < 5) (hk2 : k2 < 5) : cpyS (sg M k w) k2 k = sg (cpyS M k2 k) k w := by
  funext G
  have e : sg M k w (40 + k2) = M (40 + k2) := sg_n (by omega)
  by_cases h : G = k
  · subst h; rw [cpyS_n (by omega), sg_s, sg_s]
  · rw [sg_n h]
    by_cases h2 : G = 40 + k
    · subst h2
      unfold cpyS
      simp only [up2_gr, e, sg_n h]
    · rw [cpyS_n h2, cpyS_n h2, sg_n h]
theorem copy_ok {M : MM} {k k2 : Nat} {v : Nat → Int32} (hk : k < 5) (hk2 : k2 < 5) (h : k2 ≠ k) (R : RC (M k2) (M (40 + k2)) (M (50 + k2)) v) (hp : PM (M (50 + k))) : ∃ M1, f_X9_copyFrom M k k2 = some ((), M1) ∧ RC (M1 k) (M1 (40 + k)) (M1 (50 + k)) v ∧ ∀ G, G ≠ k → G ≠ 40 + k → M1 G = M G := by
  obtain ⟨R1, R2, R3, R4, R5, ⟨n, hn, e8, R6⟩, ⟨nb, hnb, e52, R7⟩, ⟨no, hno, e53, R8⟩⟩ := R
  obtain ⟨w0, hw0⟩ : ∃ w0, w0 = M k := ⟨_, rfl⟩
  have hM : M = sg M k w0 := by rw [hw0, sg_id]
  have e1 : f_X9_copyFrom M k k2 = f_X9_copyFrom (sg M k w0) k k2 := by rw [← hM]
  obtain ⟨w1, hw1⟩ : ∃ w1, w1 = upd (upd (upd (upd (upd (upd (upd (upd (upd w0 2 (M k2 2)) 3 (M k2 3)) 0 (M k2 0)) 1 (M k2 1)) 4 (M k2 4)) 5 (M k2 5)) 6 (M k2 6)) 7 (M k2 7)) 8 (M k2 8) := ⟨_, rfl⟩
  have w1_lo : ∀ q, q < 9 → w1 q = M k2 q := by
    intro q hq
    rw [hw1]
    unfold upd
    have h2 : q = 0 ∨ q = 1 ∨ q = 2 ∨ q = 3 ∨ q = 4 ∨ q = 5 ∨ q = 6 ∨ q = 7 ∨ q = 8 := by omega
    rcases h2 with rfl | rfl | rfl | rfl | rfl | rfl | rfl | rfl | rfl <;> simp
  have u8 : M k2 8 = nI n := (R2 8 (by omega)).trans e8
  obtain ⟨w2, hw2⟩ : ∃ w2, w2 = cpL (M k2) (pm (M (50 + k))) (pm (M (50 + k2))) 0 n w1 := ⟨_, rfl⟩
  have hlots := l_lots (M := M) hk h hn hp R1 n FU 0 w1 (by omega) (by unfold FU; omega) ((w1_lo 8 (by omega)).trans u8)
  rw [show (nI 0 : Int32) = 0 from rfl, ← hw2] at hlots
  have u52 : M k2 52 = nI nb := R4.trans e52
  have u53 : M k2 53 = nI no := R5.trans e53
  have s2 : cpyS M k2 k k2 = M k2 := cpyS_n (by omega)
  have hb := l_bells (M := cpyS M k2 k) (k := k) (k2 := k2) h hnb hno (by rw [s2]; exact u53) nb FU 0 (upd w2 52 (nI nb)) (by omega) (by unfold FU; omega) (upd_s _ _ _)
  rw [show (nI 0 : Int32) = 0 from rfl, s2] at hb
  refine ⟨sg (cpyS M k2 k) k (cpO (upd (cpB (upd w2 52 (nI nb)) (M k2) 0 nb) 53 (nI no)) (M k2) 0 no), ?_, ?_⟩
  · rw [e1]
    unfold f_X9_copyFrom
    rw [e_mixCopy h, bnd2_s, e_mixCopy h, bnd2_s, e_mixCopy h, bnd2_s, e_mixCopy h, bnd2_s]
    unfold f_X2_copyFrom
    rw [letB_e, sg_n h, up2_sg]
    rw [show upd (upd (upd (upd (upd (upd (upd (upd (upd w0 2 (M k2 2)) (2 + 1) (M k2 (2 + 1))) 0 (M k2 0)) (0 + 1) (M k2 (0 + 1))) 4 (M k2 4)) (4 + 1) (M k2 (4 + 1))) 6 (M k2 6)) (6 + 1) (M k2 (6 + 1))) 8 (M k2 8) = w1 from hw1.symm]
    rw [hlots, bnd2_s, letB_e, cpyS_sg hk hk2, letB_e, sg_n h, s2, u52, up2_sg]
    exact hb
  · have wf : ∀ q, q < 52 → cpO (upd (cpB (upd w2 52 (nI nb)) (M k2) 0 nb) 53 (nI no)) (M k2) 0 no q = w2 q := by
      intro q hq
      unfold cpO
      rw [if_neg (by omega), upd_n (by omega)]
      unfold cpB
      rw [if_neg (by omega), upd_n (by omega)]
    have w2_lo : ∀ q, q < 9 → w2 q = v q := fun q hq => by
      rw [hw2, cpL_keep n 0 w1 (fun a _ _ => by omega), w1_lo q hq]
      exact R2 q hq
    refine ⟨?_, fun G h1 h2 => by rw [sg_n h1, cpyS_n h2]⟩
    rw [sg_s, sg_n (by omega), sg_n (by omega), cpyS_n (G := 50 + k) (by omega)]
    refine ⟨hp, fun q hq => by rw [wf q (by omega)]; exact w2_lo q hq, fun j hj => by rw [cpyS_s M k2 k hj]; exact R3 j hj, ?_, ?_, ⟨n, hn, e8, fun i hi f hf => ?_⟩, ⟨nb, hnb, e52, fun b hb2 => ⟨fun f hf => ?_, fun hs => ?_, (R7 b hb2).2.2⟩⟩, ⟨no, hno, e53, fun o ho f hf => ?_⟩⟩
    · unfold cpO; rw [if_neg (by omega), upd_n (by omega)]; unfold cpB; rw [if_neg (by omega), upd_s]; exact e52.symm
    · unfold cpO; rw [if_neg (by omega), upd_s]; exact e53.symm
    · have hq := hp.1 i (by omega)
      rw [wf _ (by omega), hw2, cpL_in (N := 12) hp.2 hf n 0 w1 (by omega) (Nat.zero_le _) (by omega)]
      exact R6 i hi f hf
    · unfold cpO; rw [if_neg (by omega), upd_n (by omega)]; unfold cpB; rw [if_pos (by omega)]; exact (R7 b hb2).1 f hf
    · unfold cpO; rw [if_neg (by omega), upd_n (by omega)]; unfold cpB; rw [if_pos (by omega)]; exact (R7 b hb2).2.1 hs
    · unfold cpO; rw [if_pos (by omega)]; exact R8 o ho f hf

