section
/-! Lots: what comes and goes. The call scrap. -/
theorem RA.cong {w st r : Nat → Int32} {a a' : Nat → Int} (h : RA w st r a) (e : ∀ q, (q < 9 + 3 * (a 8).toNat ∨ 45 ≤ q) → a' q = a q) : RA w st r a' := by
  obtain ⟨r1, r9, r2, r3, r4, r5, r6, r7, r8⟩ := h
  have e8 : a' 8 = a 8 := e 8 (by omega)
  have e52 : a' 52 = a 52 := e 52 (by omega)
  have e53 : a' 53 = a 53 := e 53 (by omega)
  unfold RA
  rw [e8, e52, e53]
  refine ⟨r1, r9, fun q' h' => by rw [e _ (by omega)]; exact r2 q' h', fun j hj => by rw [e _ (by omega)]; exact r3 j hj, r4, r5, fun i hi f hf => by rw [e _ (by omega)]; exact r6 i hi f hf, fun b hb => ⟨fun f hf => by rw [e _ (by omega)]; exact (r7 b hb).1 f hf, fun hs => ?_⟩, fun o ho f hf => by rw [e _ (by omega)]; exact r8 o ho f hf⟩
  rw [e _ (by omega)] at hs ⊢; exact (r7 b hb).2 hs
theorem CW.cong {M M1 : MM} {a a' : Nat → Int} (h : CW M M1 a) (e : ∀ q, (q < 9 + 3 * (a 8).toNat ∨ 45 ≤ q) → a' q = a q) : CW M M1 a' := ⟨h.1.cong e, h.2⟩
def rs (j n i : Nat) : Nat := if i + 1 = n then j else if j ≤ i ∧ i + 1 < n then i + 1 else i
def rot (r : Nat → Int32) (j n : Nat) : Nat → Int32 := fun i => r (rs j n i)
def rmv (b : Nat → Int) (j n : Nat) : Nat → Int := fun q => if q = 8 then b 8 - 1 else if 9 + 3 * j ≤ q ∧ q < 6 + 3 * n then b (q + 3) else b q
theorem PM_rot {r : Nat → Int32} {j n : Nat} (h : PM r) (hj : j < n) (hn : n ≤ 12) : PM (rot r j n) := by
  have h1 : ∀ i, i < 12 → rs j n i < 12 := fun i hi => by unfold rs; split <;> (try split) <;> omega
  refine ⟨fun i hi => h.1 _ (h1 i hi), fun i i' hi hi' q => ?_⟩
  have h2 := h.2 _ _ (h1 i hi) (h1 i' hi') q
  unfold rs at h2
  split at h2 <;> (try split at h2) <;> (try split at h2) <;> (try split at h2) <;> omega
theorem RA.u_remove {w st r : Nat → Int32} {b : Nat → Int} (h : RA w st r b) {j n : Nat} (hn : b 8 = n) (hj : j < n) : RA (upd w 8 (iI (b 8 - 1))) st (rot r j n) (rmv b j n) := by
  obtain ⟨r1, r9, r2, r3, r4, r5, r6, r7, r8⟩ := h
  have e8 : rmv b j n 8 = b 8 - 1 := by unfold rmv; rw [if_pos rfl]
  have eo : ∀ q, q ≠ 8 → (q < 9 ∨ 45 ≤ q) → rmv b j n q = b q := fun q h1 h2 => by unfold rmv; rw [if_neg h1, if_neg (by omega)]
  have e52 : rmv b j n 52 = b 52 := eo 52 (by omega) (by omega)
  have e53 : rmv b j n 53 = b 53 := eo 53 (by omega) (by omega)
  unfold RA
  rw [e8, e52, e53]
  refine ⟨PM_rot r1 hj (by omega), ⟨by omega, r9.2⟩, fun q' h' => ?_, fun j hj => by rw [eo _ (by omega) (by omega)]; exact r3 j hj, by rw [upd_n (by omega)]; exact r4, by rw [upd_n (by omega)]; exact r5, fun i hi f hf => ?_, fun c hc => ⟨fun f hf => by rw [upd_n (by omega), eo _ (by omega) (by omega)]; exact (r7 c hc).1 f hf, fun hs => ?_⟩, fun o ho f hf => by rw [upd_n (by omega), eo _ (by omega) (by omega)]; exact r8 o ho f hf⟩
  · by_cases e : q' = 8
    · subst e; rw [upd_s, e8]
    · rw [upd_n e, eo q' e (by omega)]; exact r2 q' h'
  · have hi2 : rs j n i < n := by unfold rs; split <;> (try split) <;> omega
    have h3 := r6 (rs j n i) (by omega) f hf
    have h4 : pm (rot r j n) i = pm r (rs j n i) := rfl
    rw [h4, upd_n (by omega), h3]
    by_cases c : j ≤ i
    · have h5 : rs j n i = i + 1 := by unfold rs; rw [if_neg (by omega), if_pos (by omega)]
      have h6 : rmv b j n (9 + 3 * i + f) = b (9 + 3 * i + f + 3) := by unfold rmv; rw [if_neg (by omega), if_pos (by omega)]
      rw [h5, h6, show 9 + 3 * (i + 1) + f = 9 + 3 * i + f + 3 by omega]
    · have h5 : rs j n i = i := by unfold rs; rw [if_neg (by omega), if_neg (by omega)]
      have h6 : rmv b j n (9 + 3 * i + f) = b (9 + 3 * i + f) := by unfold rmv; rw [if_neg (by omega), if_neg (by omega)]
      rw [h5, h6]
  · rw [eo _ (by omega) (by omega)] at hs
    rw [upd_n (by omega), eo _ (by omega) (by omega)]; exact (r7 c hc).2 hs
theorem up2_c50 (M : MM) (w : Nat → Int32) (i : Nat) (x s : Int32) : up2 (up2 (sg M 50 w) 0 8 s) 50 i x = up2 (sg M 50 (upd w i x)) 0 8 s := by
  funext G
  by_cases h : G = 50
  · subst h; rw [up2_gr, up2_gn (by omega), sg_s, up2_gn (by omega), sg_s]
  · by_cases h0 : G = 0
    · subst h0; rw [up2_gn (by omega), up2_gr, up2_gr, sg_n (by omega), sg_n (by omega)]
    · rw [up2_gn h, up2_gn h0, up2_gn h0, sg_n h, sg_n h]
theorem l_remove {M : MM} {n : Nat} (hn : n ≤ 12) (hn0 : 0 < n) (e : M 0 8 = iI n) (cd x : Int32) : ∀ (m fu z : Nat) (w : Nat → Int32), z + m = n → 1 ≤ z → m < fu → (∀ i, z ≤ i → i < n → pm w i < 12) → lp_X2_remove_26 fu (sg M 50 w) 0 cd x (iI z) = some ((), up2 (sg M 50 (upd (fun i => if z ≤ i + 1 ∧ i + 1 < n then w (i + 1) else w i) (n - 1) cd)) 0 8 (iI ((n : Int) - 1))) := by
  intro m
  induction m with
  | zero =>
    intro fu z w hz h1 hf hw
    obtain ⟨f, rfl⟩ : ∃ f, fu = f + 1 := ⟨fu - 1, by omega⟩
    obtain rfl : z = n := by omega
    have e0 : sg M 50 w 0 8 = iI z := by rw [sg_n (by omega), e]
    have e1 : iI (z : Int) - 1 = iI ((z : Int) - 1) := by rw [Z1, iI_sub]
    have t1 : (iI ((z : Int) - 1)).toNatClampNeg = z - 1 := by rw [iI_nat (by omega)]; omega
    have v1 : vin (iI ((z : Int) - 1)) 12 := (iI_vin (by omega) (by omega)).mpr (by omega)
    unfold lp_X2_remove_26
    rw [if_pos (by rw [e0, iI_le (by omega) (by omega)]; omega), letB_e, e0, e1]
    simp only [up2_eq, if_pos v1, t1, letB_e, Nat.add_zero, up2_c50]
    have hf : (fun i => if z ≤ i + 1 ∧ i + 1 < z then w (i + 1) else w i) = w := by
      funext i
      rw [if_neg (by omega)]
    rw [hf]
  | succ m ih =>
    intro fu z w hz h1 hf hw
    obtain ⟨f, rfl⟩ : ∃ f, fu = f + 1 := ⟨fu - 1, by omega⟩
    have e0 : sg M 50 w 0 8 = iI n := by rw [sg_n (by omega), e]
    have e1 : iI (z : Int) - 1 = iI ((z - 1 : Nat) : Int) := by rw [Z1, iI_sub]; congr 1; omega
    have e2 : iI (z : Int) + 1 = iI ((z + 1 : Nat) : Int) := by rw [Z1, iI_add]; congr 1
    have t1 : (iI ((z - 1 : Nat) : Int)).toNatClampNeg = z - 1 := iI_lo (by omega)
    have t0 : (iI (z : Int)).toNatClampNeg = z := iI_lo (by omega)
    have v1 : vin (iI ((z - 1 : Nat) : Int)) 12 := vinI (by omega) (by omega)
    have v0 : vin (iI (z : Int)) 12 := vinI (by omega) (by omega)
    have p1 : (w z).toNatClampNeg < 12 := hw z (by omega) (by omega)
    unfold lp_X2_remove_26
    rw [if_neg (by rw [e0, iI_le (by omega) (by omega)]; omega)]
    simp only [if_pos v0, Nat.add_zero, sg_s, t0, if_pos p1, e1, if_pos v1, t1, letB_e, up2_sg, e2]
    rw [ih f (z + 1) _ (by omega) (by omega) (by omega) (fun i h2 h3 => by unfold pm; rw [upd_n (by omega)]; exact hw i (by omega) h3)]
    refine congrArg (fun w' => some ((), up2 (sg M 50 (upd w' (n - 1) cd)) 0 8 (iI ((n : Int) - 1)))) ?_
    funext i
    by_cases h2 : z + 1 ≤ i + 1 ∧ i + 1 < n
    · rw [if_pos h2, if_pos (by omega), upd_n (by omega)]
    · rw [if_neg h2]
      by_cases h3 : i = z - 1
      · rw [if_pos (by omega), h3, upd_s, show z - 1 + 1 = z by omega]
      · rw [if_neg (by omega), upd_n h3]
theorem c_remove {M : MM} {a : Nat → Int} (R : RA (M 0) (M 40) (M 50) a) {j n : Nat} (hn : a 8 = n) (hj : j < n) : ∃ M1, f_X2_remove M 0 (iI j) = some ((), M1) ∧ CW M M1 (rmv a j n) := by
  have hc := R.cb
  have e8 : M 0 8 = iI n := by rw [R.lo (by omega), hn]
  have hp : (M 50 j).toNatClampNeg < 12 := R.1.1 j (by omega)
  have tj : (iI (j : Int)).toNatClampNeg = j := iI_lo (by omega)
  have vj : vin (iI (j : Int)) 12 := vinI (by omega) (by omega)
  have e2 : iI (j : Int) + 1 = iI ((j + 1 : Nat) : Int) := by rw [Z1, iI_add]; congr 1
  have q := l_remove (M := M) (n := n) (by omega) (by omega) e8 (M 50 j) (iI j) (n - 1 - j) FU (j + 1) (M 50) (by omega) (by omega) (by unfold FU; omega) (fun i h1 h2 => R.1.1 i (by omega))
  rw [sg_id] at q
  have hr : upd (fun i => if j + 1 ≤ i + 1 ∧ i + 1 < n then M 50 (i + 1) else M 50 i) (n - 1) (M 50 j) = rot (M 50) j n := by
    funext i
    unfold rot rs
    by_cases h1 : i = n - 1
    · rw [h1, upd_s, if_pos (by omega)]
    · rw [upd_n h1]
      by_cases h2 : j ≤ i ∧ i + 1 < n
      · rw [if_pos (show j + 1 ≤ i + 1 ∧ i + 1 < n by omega), if_neg (show ¬ i + 1 = n by omega), if_pos h2]
      · rw [if_neg (show ¬ (j + 1 ≤ i + 1 ∧ i + 1 < n) by omega), if_neg (show ¬ i + 1 = n by omega), if_neg h2]
  rw [hr] at q
  refine ⟨up2 (sg M 50 (rot (M 50) j n)) 0 8 (iI ((n : Int) - 1)), ?_, ?_, fun G g1 g2 g3 g4 g5 => by rw [up2_gn g1, sg_n g3]⟩
  · unfold f_X2_remove
    rw [e8, Z1, iI_sub, e_inL 0 ((n : Int) - 1) (by omega) Z0 rfl (by omega) (by omega), bnd2_s, ify (by omega), if_pos vj]
    simp only [tj, Nat.add_zero, if_pos hp, ← Z1, e2]
    exact q
  · rw [up2_gr, sg_n (by omega), up2_gn (by omega), sg_n (by omega), up2_gn (by omega), sg_s, ← hn]
    exact R.u_remove hn hj
theorem e_burn {M : MM} {p : Nat} {c t s0 s1 u v : Int} (hp : 6 ≤ p) (h0 : M 0 p = iI c) (h1 : M 0 (p + 1) = iI t) (h2 : M 0 4 = iI s0) (h3 : M 0 5 = iI s1) (hu : M 40 0 = iI u) (hv : M 40 1 = iI v) (b0 : 0 ≤ c) (b1 : 0 ≤ t) (bu : 0 ≤ u) (bv : 0 ≤ v) (m0 : c * u < 2147480000) (m1 : t * v < 2147480000) : f_X9_burn M 0 0 p = some ((), up2 (up2 (up2 (up2 M 0 p (iI (c - sh c u))) 0 4 (iI (s0 + sh c u))) 0 (p + 1) (iI (t - sh t v))) 0 5 (iI (s1 + sh t v))) := by
  obtain ⟨fu, hfu⟩ : ∃ fu, FU = fu + 1 + 1 + 1 := ⟨19997, rfl⟩
  have c0 : ¬ (1 : Int32) < 0 := by decide
  have c1 : ¬ (1 : Int32) < 1 := by decide
  have c2 : (1 : Int32) < 2 := by decide
  have v0 : vin (0 : Int32) 7 := by decide
  have v1 : vin (1 : Int32) 7 := by decide
  have t0 : (0 : Int32).toNatClampNeg = 0 := by decide
  have t1 : (1 : Int32).toNatClampNeg = 1 := by decide
  have a1 : (0 : Int32) + 1 = 1 := by decide
  have a2 : (1 : Int32) + 1 = 2 := by decide
  have l0 : f_X6_lossOf M 0 p 0 (iI u) = some (iI (sh c u), M) := by
    unfold f_X6_lossOf
    rw [e_of0, bnd2_s, h0, e_share b0 bu m0, bnd2_s]
  have l1 : ∀ M' : MM, M' 0 (p + 1) = iI t → f_X6_lossOf M' 0 p 1 (iI v) = some (iI (sh t v), M') := by
    intro M' hM
    unfold f_X6_lossOf
    rw [e_of1, bnd2_s, hM, e_share b1 bv m1, bnd2_s]
  obtain ⟨M1, hM1⟩ : ∃ M1, M1 = up2 (up2 M 0 p (iI (c - sh c u))) 0 4 (iI (s0 + sh c u)) := ⟨_, rfl⟩
  have k0 : up2 M 0 p (iI (c - sh c u)) 0 4 = iI s0 := by rw [up2_in _ (by omega), h2]
  have k1 : M1 0 (p + 1) = iI t := by rw [hM1, up2_in _ (by omega), up2_in _ (by omega), h1]
  have k2 : up2 M1 0 (p + 1) (iI (t - sh t v)) 0 5 = iI s1 := by rw [up2_in _ (by omega), hM1, up2_in _ (by omega), up2_in _ (by omega), h3]
  have k3 : M1 40 1 = iI v := by rw [hM1, up2_gn (by omega), up2_gn (by omega), hv]
  unfold f_X9_burn
  rw [hfu]
  simp only [lp_X9_burn_2, if_neg c0, if_neg c1, if_pos c2, if_pos v0, if_pos v1, t0, t1, a1, a2, Nat.add_zero, hu, l0, bnd2_s, e_put0, h0, iI_neg, iI_add, ← Int.sub_eq_add_neg, k0, ← hM1, k3, l1 M1 k1, e_put1, k1, k2]
theorem mv_eq {a : Nat → Int} {p q : Nat} {c t : Int} (h : p + 1 < q ∨ q + 1 < p) : mv a p q c t = uI (uI (uI (uI a p (a p - c)) q (a q + c)) (p + 1) (a (p + 1) - t)) (q + 1) (a (q + 1) + t) := by
  unfold mv
  rw [uI_n (show q ≠ p + 1 by omega), uI_n (show q ≠ p by omega), uI_n (show q + 1 ≠ p + 1 by omega), uI_n (show q + 1 ≠ p by omega), uI_comm (a := uI a p (a p - c)) (p := p + 1) (q := q) (by omega)]
theorem mv_p {a : Nat → Int} {p q : Nat} {c t : Int} (h : p + 1 < q ∨ q + 1 < p) : mv a p q c t p = a p - c := by
  rw [mv_eq h, uI_n (by omega), uI_n (by omega), uI_n (by omega), uI_s]
theorem mv_p1 {a : Nat → Int} {p q : Nat} {c t : Int} (h : p + 1 < q ∨ q + 1 < p) : mv a p q c t (p + 1) = a (p + 1) - t := by
  rw [mv_eq h, uI_n (by omega), uI_s]
theorem mv_q {a : Nat → Int} {p q : Nat} {c t : Int} (h : p + 1 < q ∨ q + 1 < p) : mv a p q c t q = a q + c := by
  rw [mv_eq h, uI_n (by omega), uI_n (by omega), uI_s]
theorem mv_q1 {a : Nat → Int} {p q : Nat} {c t : Int} (h : p + 1 < q ∨ q + 1 < p) : mv a p q c t (q + 1) = a (q + 1) + t := by
  rw [mv_eq h, uI_s]
theorem mv_n {a : Nat → Int} {p q x : Nat} {c t : Int} (h : p + 1 < q ∨ q + 1 < p) (h0 : x ≠ p) (h1 : x ≠ p + 1) (h2 : x ≠ q) (h3 : x ≠ q + 1) : mv a p q c t x = a x := by
  rw [mv_eq h, uI_n h3, uI_n h1, uI_n h2, uI_n h0]
theorem CW.s {M M1 : MM} {a : Nat → Int} (h : CW M M1 a) {q : Nat} (x : Int) (hq : q < 8 ∨ (54 ≤ q ∧ q < 854 ∧ (q - 54) % 8 < 6) ∨ 854 ≤ q) : CW M (up2 M1 0 q (iI x)) (uI a q x) := h.up (h.1.u_same x hq)
theorem CW.lot {M M1 : MM} {a : Nat → Int} (h : CW M M1 a) {i f p : Nat} (x : Int) (hi : i < 12) (hf : f < 3) (hp : p = 9 + 3 * pm (M1 50) i + f) : CW M (up2 M1 0 p (iI x)) (uI a (9 + 3 * i + f) x) := by
  rw [hp]; exact h.up (h.1.u_lot x hi hf)
/-- a lot, burned if it is shavings -/
def scA (a : Nat → Int) (j : Nat) : Nat → Int := if a (11 + 3 * j) = 1 then mv a (9 + 3 * j) 4 (sh (a (9 + 3 * j)) (a 45)) (sh (a (10 + 3 * j)) (a 46)) else a
theorem scA_n {a : Nat → Int} {j q : Nat} (h : q ≠ 4 ∧ q ≠ 5 ∧ q ≠ 9 + 3 * j ∧ q ≠ 10 + 3 * j) : scA a j q = a q := by
  unfold scA
  split
  · exact mv_n (by omega) (by omega) (by omega) (by omega) (by omega)
  · rfl
theorem scA_b {k : Int} {a : Nat → Int} {j : Nat} (hl : BL k a j) (hs : BS a) : (0 ≤ scA a j (9 + 3 * j) ∧ scA a j (9 + 3 * j) ≤ a (9 + 3 * j)) ∧ 0 ≤ scA a j (10 + 3 * j) ∧ scA a j (10 + 3 * j) ≤ a (10 + 3 * j) := by
  unfold BL at hl
  unfold BS at hs
  unfold scA
  split
  · have h1 := sh_nn (p := a (9 + 3 * j)) (s := a 45) (by omega) (by omega)
    have h2 := sh_le (p := a (9 + 3 * j)) (s := a 45) (by omega) (by omega) (by omega)
    have h3 := sh_nn (p := a (10 + 3 * j)) (s := a 46) (by omega) (by omega)
    have h4 := sh_le (p := a (10 + 3 * j)) (s := a 46) (by omega) (by omega) (by omega)
    have e1 := mv_p (a := a) (p := 9 + 3 * j) (q := 4) (c := sh (a (9 + 3 * j)) (a 45)) (t := sh (a (10 + 3 * j)) (a 46)) (by omega)
    have e2 := mv_p1 (a := a) (p := 9 + 3 * j) (q := 4) (c := sh (a (9 + 3 * j)) (a 45)) (t := sh (a (10 + 3 * j)) (a 46)) (by omega)
    rw [show 9 + 3 * j + 1 = 10 + 3 * j by omega] at e2
    rw [e1, e2]
    omega
  · omega
def scB (a : Nat → Int) (j n : Nat) : Nat → Int := rmv (mv (scA a j) (9 + 3 * j) 6 (scA a j (9 + 3 * j)) (scA a j (10 + 3 * j))) j n
theorem Bd.lots {k k' : Int} {a a' : Nat → Int} (h : Bd k a) (hk : k ≤ k') (hm : BM a') (hl : ∀ i, i < 12 → BL k' a' i) (e : ∀ q, 45 ≤ q → a' q = a q) : Bd k' a' := by
  obtain ⟨h1, h2, h3, h4, h5, h6, h7⟩ := h.mono hk
  refine ⟨hm, h2.congr (fun q hq _ => e q hq), hl, fun b hb => ?_, fun o ho => ?_, ?_, ?_⟩
  · rw [e 52 (by omega)] at hb
    exact (h4 b hb).congr (fun q hq _ => e q (by omega))
  · rw [e 53 (by omega)] at ho
    exact (h5 o ho).congr (fun q hq _ => e q (by omega))
  · unfold hereN at h6 ⊢
    rw [e 52 (by omega), cn_congr (Q := hereP a) (fun i hi => by unfold hereP; rw [e _ (by omega)])]
    exact h6
  · unfold openN at h7 ⊢
    rw [e 53 (by omega), cn_congr (Q := openP a) (fun i hi => by unfold openP; rw [e _ (by omega)])]
    exact h7
end
