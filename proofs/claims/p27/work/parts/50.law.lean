/-! THE LAW, over all its turns. -/
theorem bnd1_s' {α β : Type} (x : α) (F : α → Option β) : bnd1 (some x) F = F x := rfl
def a0S : Nat → Int := fun q => if q = 45 then 5 else if q = 46 then 20 else if q = 47 then 180 else if q = 48 then 260 else if q = 49 then 50 else if q = 50 then 6 else if q = 51 then 2000 else 0
theorem a0S_0 {q : Nat} (h : q < 45 ∨ 52 ≤ q) : a0S q = 0 := by
  unfold a0S
  rw [if_neg (by omega), if_neg (by omega), if_neg (by omega), if_neg (by omega), if_neg (by omega), if_neg (by omega), if_neg (by omega)]
theorem M0_pm : ∀ k : Nat, k < 5 → PM (M0 (50 + k)) := by
  intro k hk
  have e : ∀ i, pm (M0 (50 + k)) i = (Int32.ofNat i).toNatClampNeg := fun i => by
    unfold pm M0
    rw [if_neg (by omega), if_pos (by omega)]
  have e2 : ∀ i, i < 12 → pm (M0 (50 + k)) i = i := fun i hi => by rw [e, show Int32.ofNat i = iI (i : Int) from nI_i i, iI_lo (by omega)]
  exact ⟨fun i hi => by rw [e2 i hi]; exact hi, fun i i' hi hi' q => by rw [e2 i hi, e2 i' hi'] at q; exact q⟩
theorem st_first : VC M0 a0S 0 (fun _ _ => 0) 0 (fun _ => 0) ∧ VB 0 a0S 0 (fun _ _ => 0) 0 (fun _ => 0) := by
  have z0 : ∀ q, M0 0 q = 0 := fun q => rfl
  have h35 : ∀ i, i < 4 → pm (M0 35) i = i + 1 := fun i hi => by
    have : pm (M0 35) i = (Int32.ofNat (i + 1)).toNatClampNeg := rfl
    rw [this, show Int32.ofNat (i + 1) = iI ((i + 1 : Nat) : Int) from nI_i _, iI_lo (by omega)]
  refine ⟨⟨⟨M0_pm 0 (by omega), ?_, fun q hq => ?_, fun j hj => ?_, ?_, ?_, fun i hi => ?_, fun b hb => ?_, fun o ho => ?_⟩, ⟨rfl, by omega, fun i hi => ?_, fun i i' hi hi' q => ?_, M0_pm, fun i hi => absurd hi (Nat.not_lt_zero i)⟩, rfl, fun i hi => absurd hi (Nat.not_lt_zero i)⟩, ⟨⟨?_, ?_, fun i hi => ?_, fun b hb => ?_, fun o ho => ?_, ?_, ?_⟩, by omega, fun i hi => absurd hi (Nat.not_lt_zero i), by omega, fun i hi => absurd hi (Nat.not_lt_zero i)⟩⟩
  · rw [a0S_0 (by omega), a0S_0 (by omega), a0S_0 (by omega)]; omega
  · rw [z0, a0S_0 (by omega)]; rfl
  · have h7 : j = 0 ∨ j = 1 ∨ j = 2 ∨ j = 3 ∨ j = 4 ∨ j = 5 ∨ j = 6 := by omega
    rcases h7 with rfl | rfl | rfl | rfl | rfl | rfl | rfl <;> rfl
  · rw [z0, a0S_0 (by omega)]; rfl
  · rw [z0, a0S_0 (by omega)]; rfl
  · rw [a0S_0 (by omega)] at hi; exact absurd hi (Nat.not_lt_zero i)
  · rw [a0S_0 (by omega)] at hb; exact absurd hb (Nat.not_lt_zero b)
  · rw [a0S_0 (by omega)] at ho; exact absurd ho (Nat.not_lt_zero o)
  · rw [h35 i hi]; omega
  · rw [h35 i hi, h35 i' hi'] at q; omega
  · unfold BM
    rw [a0S_0 (q := 0) (by omega), a0S_0 (q := 1) (by omega), a0S_0 (q := 6) (by omega), a0S_0 (q := 7) (by omega), a0S_0 (q := 8) (by omega), a0S_0 (q := 52) (by omega), a0S_0 (q := 53) (by omega)]
    omega
  · unfold BS
    decide
  · unfold BL
    rw [a0S_0 (q := 9 + 3 * i) (by omega), a0S_0 (q := 10 + 3 * i) (by omega), a0S_0 (q := 11 + 3 * i) (by omega)]
    omega
  · rw [a0S_0 (by omega)] at hb; exact absurd hb (Nat.not_lt_zero b)
  · rw [a0S_0 (by omega)] at ho; exact absurd ho (Nat.not_lt_zero o)
  · unfold hereN
    rw [a0S_0 (by omega)]
    exact Nat.zero_le _
  · unfold openN
    rw [a0S_0 (by omega)]
    exact Nat.zero_le _
theorem st_J : JJ a0S := by
  have z : ∀ q, (q < 45 ∨ 52 ≤ q) → a0S q = 0 := fun q h => a0S_0 h
  refine ⟨fun m hm => ?_, fun i hi => ?_, fun b hb => ?_, ?_⟩
  · have l : lotS a0S m = 0 := by unfold lotS; rw [z 8 (by omega)]; rfl
    have b : belS a0S m = 0 := by unfold belS; rw [z 52 (by omega)]; rfl
    have s : sntS a0S m = 0 := by unfold sntS; rw [z 52 (by omega)]; rfl
    unfold JM
    rw [l, b, s, z (2 + m) (by omega), z m (by omega), z (6 + m) (by omega), z (4 + m) (by omega)]
    omega
  · rw [z 8 (by omega)] at hi; exact absurd hi (Nat.not_lt_zero i)
  · rw [z 52 (by omega)] at hb; exact absurd hb (Nat.not_lt_zero b)
  · unfold JS; rw [z 53 (by omega), z 52 (by omega)]; rfl
theorem pH_2 {m : Nat} {K : Nat → Nat → Int} {b : Nat → Int} (h1 : 1 ≤ m) (h4 : m ≤ 4) : pH m K b (pN m - 1 - 1) = K (m - 1) := by
  unfold pH pN
  by_cases e : m = 4
  · subst e; rfl
  · rw [if_neg e, if_neg e, if_neg (by omega), show m + 1 - 1 - 1 = m - 1 by omega]
theorem pH_3 {m : Nat} {K : Nat → Nat → Int} {b : Nat → Int} (h1 : 2 ≤ m) (h4 : m ≤ 4) : pH m K b (pN m - 1 - 1 - 1) = K (m - 1 - 1) := by
  unfold pH pN
  by_cases e : m = 4
  · subst e; rfl
  · rw [if_neg e, if_neg e, if_neg (by omega), show m + 1 - 1 - 1 - 1 = m - 1 - 1 by omega]
section GLW
variable {k : Int} {M : MM} {a : Nat → Int} {n : Nat} {H : Nat → Nat → Int} {L : Nat} {t : Nat → Int}
theorem g_192 (hk : k + 4 ≤ 1000) (vc : VC M a n H L t) (vb : VB k a n H L t) (J : JJ a) (hT : ∀ m, m ≤ 1 → a (2 + m) ≤ 1000000) (z v w : Int32) : ∃ M1 n' H' L' t', lp_L_law_192 M z v w = some M1 ∧ VC M1 a n' H' L' t' ∧ VB (k + 4) a n' H' L' t' := by
  have no : ¬ (1 : Int32) = 0 := by decide
  obtain ⟨M1, e1, v1⟩ := g_fits (by omega) vc vb J hT
  have tail : ∀ M2, VC M2 a n H L t → ∃ M1 n' H' L' t', (bnd2 (f_L_areLoads M2 (w >>> ((3 : Int32) &&& 31))) fun r Mw => (if (r : Int32) = 0 then none else (if ((z) - (z) / (4) * (4) : Int32) = (1 : Int32) then (bnd2 (f_L_comesTrue Mw (v >>> ((5 : Int32) &&& 31))) fun r2 Mx => (if (r2 : Int32) = 0 then none else some (Mx))) else some (Mw)))) = some M1 ∧ VC M1 a n' H' L' t' ∧ VB (k + 4) a n' H' L' t' := by
    intro M2 v2
    obtain ⟨M3, L', t', e3, v3, b3⟩ := g_areLoads v2 vb (w >>> ((3 : Int32) &&& 31))
    by_cases c : z - z / 4 * 4 = 1
    · obtain ⟨M4, e4, n', H', v4, b4⟩ := g_comesTrue hk v3 b3 (v >>> ((5 : Int32) &&& 31))
      exact ⟨M4, n', H', L', t', by rw [e3, bnd2_s, if_neg no, if_pos c, e4, bnd2_s, if_neg no], v4, b4⟩
    · exact ⟨M3, n, H, L', t', by rw [e3, bnd2_s, if_neg no, if_neg c], v3, b3.up (by omega)⟩
  unfold lp_L_law_192
  rw [e1, bnd2_s, if_neg no]
  by_cases c : z - z / 7 * 7 = 5
  · obtain ⟨M2, e2, v2⟩ := g_refused (by omega) v1 vb
    rw [if_pos c, e2, bnd2_s, if_neg no]
    exact tail M2 v2
  · rw [if_neg c]
    exact tail M1 v1
theorem g_252 (hk : k + 4 ≤ 1000) (vc : VC M a n H L t) (vb : VB k a n H L t) (J : JJ a) (hT : ∀ m, m ≤ 1 → a (2 + m) ≤ 500000) (z w : Int32) : ∃ M1 a' n' H', lp_L_law_252 M z w = some M1 ∧ VC M1 a' n' H' L t ∧ VB (k + 4) a' n' H' L t ∧ JJ a' ∧ a' 2 = a 2 ∧ a' 3 ≤ a 3 + 7 ∧ a' 52 = a 52 := by
  have no : ¬ (1 : Int32) = 0 := by decide
  have hM := vb.1.1
  unfold BM at hM
  unfold lp_L_law_252
  rw [if_neg no]
  by_cases c : z - z / 5 * 5 = 4
  · have hT1 := hT 1 (by omega)
    have hb := acc_b vb J (m := 1) (by omega)
    have hJ := J.1 1 (by omega)
    unfold JM at hJ
    obtain ⟨M1, e1, p1⟩ := s_buy vc vb (m := 1) (by omega) (Y := 7) (by omega) (by omega)
    have e1' : f_X10_buy M 1 7 = some (iI (a 1 + 7), M1) := e1
    obtain ⟨a1, ha1⟩ : ∃ a1, a1 = buyA a 1 7 := ⟨_, rfl⟩
    rw [← ha1] at p1
    have q1 : a1 1 = a 1 + 7 := by rw [ha1]; unfold buyA; rw [uI_n (by omega), uI_s]
    have q6 : a1 6 = a 6 := by rw [ha1]; unfold buyA; rw [uI_n (by omega), uI_n (by omega)]
    have q7 : a1 7 = a 7 := by rw [ha1]; unfold buyA; rw [uI_n (by omega), uI_n (by omega)]
    have q2 : a1 2 = a 2 := by rw [ha1]; unfold buyA; rw [uI_n (by omega), uI_n (by omega)]
    have q3 : a1 3 = a 3 + 7 := by rw [ha1]; unfold buyA; exact uI_s _ _ _
    have q52 : a1 52 = a 52 := by rw [ha1]; unfold buyA; rw [uI_n (by omega), uI_n (by omega)]
    have J1 : JJ a1 := by rw [ha1]; exact J_buy J (by omega) (by omega) (by omega) _
    obtain ⟨y, hy, ey⟩ := g_lowA w (d := 400) (by omega) (by omega)
    rw [show iI 400 = (400 : Int32) from rfl] at ey
    have lim : sLo 2 ≤ (y : Int) ∧ (y : Int) ≤ sHi 2 := by show (0 : Int) ≤ _ ∧ _ ≤ (1000 : Int); omega
    have h4 := vb.2.1
    have n1 : 1 ≤ pN n ∧ pN n ≤ 4 := by unfold pN; split <;> omega
    rw [if_pos c, g_sum (by omega) vc vb, bnd2_s, e1', bnd2_s, if_neg (by rw [Z0, iI_le (by omega) (by omega)]; omega)]
    by_cases d : a1 6 + a1 7 + 1 ≤ 20000
    · obtain ⟨M2, e2, p2⟩ := s_charge p1.1 p1.2 (m := 1) (by omega) (Y := 1) (by omega) (by omega) d
      have e2' : f_X10_charge M1 1 1 = some (iI (a1 6 + a1 7 + 1), M2) := e2
      obtain ⟨a2, ha2⟩ : ∃ a2, a2 = chaA a1 1 1 := ⟨_, rfl⟩
      rw [← ha2] at p2
      obtain ⟨M3, e3, p3⟩ := s_set p2.1 p2.2 (j := 2) (by omega) (Y := (y : Int)) lim
      have e3' : f_X10_set M2 2 (iI (y : Int)) = some (iI (a2 47), M3) := e3
      have hS2 := p2.2.1.2.1
      unfold BS at hS2
      have n2 : 2 ≤ pN (pN n) ∧ pN (pN n) ≤ 4 := by unfold pN; split <;> split <;> omega
      have n3 : 3 ≤ pN (pN (pN n)) ∧ pN (pN (pN n)) ≤ 4 := by
        have h : ∀ m, 2 ≤ m → m ≤ 4 → 3 ≤ pN m ∧ pN m ≤ 4 := fun m h1 h2 => by unfold pN; split <;> omega
        exact h _ n2.1 n2.2
      obtain ⟨M4, e4, v4, b4⟩ := p3.undo p2.2.1
      obtain ⟨M5, e5, v5, b5⟩ := s_undo v4 b4 (by omega)
      rw [pH_2 (by omega) n2.2, pH_top] at v5 b5
      rw [e2', bnd2_s, if_neg (by rw [Zm1, iI_inj (by omega) (by omega)]; omega), ey, bnd2_s, e3', bnd2_s, if_neg (by rw [Z0, iI_lt (by omega) (by omega)]; omega), e4, bnd2_s, if_neg (by rw [Z0, iI_lt (by omega) (by omega)]; omega), e5, bnd2_s, if_neg (by rw [Z0, iI_lt (by omega) (by omega)]; omega), g_sum (by omega) v5 b5, bnd2_s]
      by_cases q : svS a1 L = svS a L
      · rw [if_pos (lgc_eq.mpr q), g_sum (by omega) v5 b5, bnd2_s, if_pos (lgc_eq.mpr q)]
        exact ⟨M5, a1, _, _, rfl, v5, b5.up (by omega), J1, q2, by omega, q52⟩
      · obtain ⟨M6, e6, v6, b6⟩ := s_undo v5 b5 (by omega)
        rw [pH_3 n2.1 n2.2, pH_2 n1.1 n1.2, pH_top] at v6 b6
        rw [if_neg (fun h => q (lgc_eq.mp h)), e6, bnd2_s, if_neg (by rw [Z0, iI_lt (by omega) (by omega)]; omega), g_sum (by omega) v6 b6, bnd2_s, if_pos (lgc_eq.mpr rfl)]
        exact ⟨M6, a, _, _, rfl, v6, b6.up (by omega), J, rfl, by omega, rfl⟩
    · have e2 := s_charge_hi p1.1 p1.2 (m := 1) (by omega) (Y := 1) (by omega) (by omega) d
      have e2' : f_X10_charge M1 1 1 = some (-3, M1) := e2
      obtain ⟨M3, e3, p3⟩ := s_set p1.1 p1.2 (j := 2) (by omega) (Y := (y : Int)) lim
      have e3' : f_X10_set M1 2 (iI (y : Int)) = some (iI (a1 47), M3) := e3
      have hS2 := p1.2.1.2.1
      unfold BS at hS2
      have n2 : 2 ≤ pN (pN n) ∧ pN (pN n) ≤ 4 := by unfold pN; split <;> split <;> omega
      obtain ⟨M4, e4, v4, b4⟩ := p3.undo p1.2.1
      obtain ⟨M5, e5, v5, b5⟩ := s_undo v4 b4 (by omega)
      rw [pH_2 n1.1 n1.2, pH_top] at v5 b5
      rw [e2', bnd2_s, if_neg (by decide), ey, bnd2_s, e3', bnd2_s, if_neg (by rw [Z0, iI_lt (by omega) (by omega)]; omega), e4, bnd2_s, if_neg (by rw [Z0, iI_lt (by omega) (by omega)]; omega), e5, bnd2_s, if_neg (by rw [Z0, iI_lt (by omega) (by omega)]; omega), g_sum (by omega) v5 b5, bnd2_s, if_pos (lgc_eq.mpr rfl), g_sum (by omega) v5 b5, bnd2_s, if_pos (lgc_eq.mpr rfl)]
      exact ⟨M5, a, _, _, rfl, v5, b5.up (by omega), J, rfl, by omega, rfl⟩
  · rw [if_neg c]
    exact ⟨M, a, n, H, rfl, vc, vb.up (by omega), J, rfl, by omega, rfl⟩
/-- what holds between two turns -/
def GS (k T : Int) (M : MM) : Prop := ∃ a n H L t, VC M a n H L t ∧ VB k a n H L t ∧ JJ a ∧ a 2 ≤ 30000 + 5000 * T ∧ a 3 ≤ 30000 + 5000 * T ∧ a 52 ≤ T
theorem cell_some (xs : Nat → Int32) {L : Nat} (hL : L ≤ 260) (q : Nat) (hq : q < 1000) : ∃ r, f_L_cell xs L (iI (q : Int)) = some r := by
  unfold f_L_cell
  rw [show Int32.ofNat L = iI (L : Int) from nI_i L]
  by_cases c : L ≤ q
  · rw [if_pos (by rw [iI_le (by omega) (by omega)]; omega)]; exact ⟨_, rfl⟩
  · rw [if_neg (by rw [iI_le (by omega) (by omega)]; omega), if_pos (vinI (by omega) (by omega))]; exact ⟨_, rfl⟩
/-- one turn, behind acts -/
theorem turn_t {k T : Int} (hk : k + 10 ≤ 1000) (hT0 : 0 ≤ T ∧ T ≤ 36) (vc : VC M a n H L t) (vb : VB k a n H L t) (J : JJ a) (h2 : a 2 ≤ 30000 + 5000 * T) (h3 : a 3 ≤ 30000 + 5000 * T) (h52 : a 52 ≤ T) (x v w z zz y : Int32) : ∃ M1 M2 M3, f_L_acts M x v w = some (1, M1) ∧ lp_L_law_192 M1 z zz y = some M2 ∧ lp_L_law_252 M2 z y = some M3 ∧ GS (k + 10) (T + 1) M3 := by
  have hT : ∀ m, m ≤ 1 → a (2 + m) ≤ 500000 := fun m hm => by
    have hm' : m = 0 ∨ m = 1 := by omega
    rcases hm' with rfl | rfl
    · show a 2 ≤ _; omega
    · show a 3 ≤ _; omega
  obtain ⟨M1, a1, n1, H1, e1, v1, b1, J1, g2, g3, g52⟩ := g_acts (by omega) vc vb J hT (by omega) x v w
  have hT1 : ∀ m, m ≤ 1 → a1 (2 + m) ≤ 500000 := fun m hm => by
    have hm' : m = 0 ∨ m = 1 := by omega
    rcases hm' with rfl | rfl
    · show a1 2 ≤ _; omega
    · show a1 3 ≤ _; omega
  obtain ⟨M2, n2, H2, L2, t2, e2, v2, b2⟩ := g_192 (by omega) v1 b1 J1 (fun m hm => by have := hT1 m hm; omega) z zz y
  obtain ⟨M3, a3, n3, H3, e3, v3, b3, J3, k2, k3, k52⟩ := g_252 (by omega) v2 b2 J1 hT1 z y
  exact ⟨M1, M2, M3, e1, e2, e3, a3, n3, H3, L2, t2, v3, b3.up (by omega), J3, by omega, by omega, by omega⟩
theorem l_w125 (xs : Nat → Int32) {Lx : Nat} (hL : Lx ≤ 260) : ∀ (j fu z : Nat) (M : MM), z + j = 36 → j < fu → GS (10 + 10 * (z : Int)) z M → lp_L_law_125 fu M xs Lx (iI (z : Int)) = some () := by
  have no : ¬ (1 : Int32) = 0 := by decide
  intro j
  induction j with
  | zero =>
    intro fu z M hz hf s
    obtain ⟨f, rfl⟩ : ∃ f, fu = f + 1 := ⟨fu - 1, by omega⟩
    obtain rfl : z = 36 := by omega
    obtain ⟨a, n, H, L, t, vc, vb, -⟩ := s
    obtain ⟨M1, e1, v1⟩ := g_refused (by omega) vc vb
    unfold lp_L_law_125
    rw [if_pos (by decide), if_neg no, e1, bnd2_s, if_neg no]
  | succ j ih =>
    intro fu z M hz hf s
    obtain ⟨f, rfl⟩ : ∃ f, fu = f + 1 := ⟨fu - 1, by omega⟩
    obtain ⟨a, n, H, L, t, vc, vb, J, h2, h3, h52⟩ := s
    have m1 : (2 : Int32) * iI (z : Int) = iI ((2 * z : Nat) : Int) := by rw [Z2, iI_mul]; rfl
    have m2 : iI ((2 * z : Nat) : Int) + 1 = iI ((2 * z + 1 : Nat) : Int) := iI_1 _
    obtain ⟨r8, e8⟩ := cell_some xs hL (2 * z) (by omega)
    obtain ⟨r11, e11⟩ := cell_some xs hL (2 * z + 1) (by omega)
    unfold lp_L_law_125
    rw [if_neg (by rw [show (36 : Int32) = iI 36 from rfl, iI_le (by omega) (by omega)]; omega), if_neg no, m1, m2, e8, bnd1_s', e11, bnd1_s']
    by_cases c : 3 ≤ z
    · obtain ⟨q, hq, eq⟩ := g_lowA (r8 >>> ((2 : Int32) &&& 31)) (d := 13) (by omega) (by omega)
      rw [← Z13] at eq
      obtain ⟨M1, M2, M3, e1, e2, e3, s3⟩ := turn_t (T := (z : Int)) (by omega) (by omega) vc vb J h2 h3 h52 (iI (q : Int)) (r8 >>> ((6 : Int32) &&& 31)) r11 (iI (z : Int)) r8 r11
      rw [if_pos (by rw [Z3, iI_le (by omega) (by omega)]; omega), eq, bnd2_s, e1, bnd2_s, if_neg no, e2, bnd1_s', e3, bnd1_s', iI_1]
      refine ih f (z + 1) M3 (by omega) (by omega) ?_
      rw [show 10 + 10 * ((z + 1 : Nat) : Int) = 10 + 10 * (z : Int) + 10 by omega]
      exact s3
    · obtain ⟨M1, M2, M3, e1, e2, e3, s3⟩ := turn_t (T := (z : Int)) (by omega) (by omega) vc vb J h2 h3 h52 2 (r8 >>> ((6 : Int32) &&& 31)) r11 (iI (z : Int)) r8 r11
      rw [if_neg (by rw [Z3, iI_le (by omega) (by omega)]; omega), e1, bnd2_s, if_neg no, e2, bnd1_s', e3, bnd1_s', iI_1]
      refine ih f (z + 1) M3 (by omega) (by omega) ?_
      rw [show 10 + 10 * ((z + 1 : Nat) : Int) = 10 + 10 * (z : Int) + 10 by omega]
      exact s3
end GLW
theorem law_run (xs : Nat → Int32) (L : Nat) (hL : L ≤ 260) : f_L_law M0 xs L = some () := by
  have no : ¬ (1 : Int32) = 0 := by decide
  obtain ⟨vc, vb⟩ := st_first
  have J := st_J
  have z : ∀ q, (q < 45 ∨ 52 ≤ q) → a0S q = 0 := fun q h => a0S_0 h
  have hT : ∀ m, m ≤ 1 → a0S (2 + m) ≤ 1000000 := fun m hm => by rw [z _ (by omega)]; omega
  obtain ⟨r1, e1⟩ := cell_some xs hL 90 (by omega)
  obtain ⟨r7, e7⟩ := cell_some xs hL 91 (by omega)
  obtain ⟨y0, hy0, ey0⟩ := g_lowA r1 (d := 4000) (by omega) (by omega)
  obtain ⟨y1, hy1, ey1⟩ := g_lowA r7 (d := 1400) (by omega) (by omega)
  rw [show iI 4000 = (4000 : Int32) from rfl] at ey0
  rw [show iI 1400 = (1400 : Int32) from rfl] at ey1
  have e1' : f_L_cell xs L 90 = some r1 := e1
  have e7' : f_L_cell xs L 91 = some r7 := e7
  obtain ⟨M1, f1, v1⟩ := g_refused (by omega) vc vb
  obtain ⟨M2, f2, v2⟩ := g_fits (by omega) v1 vb J hT
  obtain ⟨M3, f3, p3⟩ := s_buy v2 vb (m := 0) (by omega) (Y := 20000) (by omega) (by rw [z 0 (by omega)]; omega)
  have f3' : f_X10_buy M2 0 20000 = some (20000, M3) := by
    have h : f_X10_buy M2 0 20000 = some (iI (a0S 0 + 20000), M3) := f3
    rw [h, z 0 (by omega), show (0 : Int) + 20000 = 20000 by omega, ← Z20000]
  obtain ⟨a3, ha3⟩ : ∃ a3, a3 = buyA a0S 0 20000 := ⟨_, rfl⟩
  rw [← ha3] at p3
  have s3 : a3 0 = 20000 ∧ a3 1 = 0 ∧ a3 2 = 20000 ∧ a3 3 = 0 ∧ a3 6 = 0 ∧ a3 7 = 0 ∧ a3 52 = 0 ∧ a3 8 = 0 := by
    rw [ha3]; unfold buyA uI
    rw [z (2 + 0) (by omega), z 0 (by omega)]
    refine ⟨rfl, ?_, rfl, ?_, ?_, ?_, ?_, ?_⟩ <;> rfl
  have J3 : JJ a3 := by rw [ha3]; exact J_buy J (by rw [z 8 (by omega)]; omega) (by rw [z 52 (by omega)]; omega) (by omega) _
  obtain ⟨M4, f4, p4⟩ := s_buy p3.1 p3.2 (m := 1) (by omega) (Y := 6000) (by omega) (by omega)
  have f4' : f_X10_buy M3 1 6000 = some (6000, M4) := by
    have h : f_X10_buy M3 1 6000 = some (iI (a3 1 + 6000), M4) := f4
    rw [h, s3.2.1, show (0 : Int) + 6000 = 6000 by omega]; rfl
  obtain ⟨a4, ha4⟩ : ∃ a4, a4 = buyA a3 1 6000 := ⟨_, rfl⟩
  rw [← ha4] at p4
  have s4 : a4 0 = 20000 ∧ a4 1 = 6000 ∧ a4 2 = 20000 ∧ a4 3 = 6000 ∧ a4 6 = 0 ∧ a4 7 = 0 ∧ a4 52 = 0 ∧ a4 8 = 0 := by
    obtain ⟨t0, t1, t2, t3, t6, t7, t52, t8⟩ := s3
    have g : ∀ q, q ≠ 1 → q ≠ 3 → a4 q = a3 q := fun q q1 q2 => by rw [ha4]; unfold buyA; rw [uI_n (by omega), uI_n (by omega)]
    rw [g 0 (by omega) (by omega), g 2 (by omega) (by omega), g 6 (by omega) (by omega), g 7 (by omega) (by omega), g 52 (by omega) (by omega), g 8 (by omega) (by omega)]
    refine ⟨t0, ?_, t2, ?_, t6, t7, t52, t8⟩
    · rw [ha4]; unfold buyA; rw [uI_n (by omega), uI_s, t1]; rfl
    · rw [ha4]; unfold buyA; rw [show 3 = 2 + 1 from rfl, uI_s, t3]; rfl
  have J4 : JJ a4 := by rw [ha4]; exact J_buy J3 (by omega) (by omega) (by omega) _
  obtain ⟨M5, f5, p5⟩ := s_charge p4.1 p4.2 (m := 0) (by omega) (Y := 9000 + (y0 : Int)) (by omega) (by omega) (by omega)
  have f5' : f_X10_charge M4 0 (iI (9000 + (y0 : Int))) = some (iI (9000 + (y0 : Int)), M5) := by
    have h : f_X10_charge M4 0 (iI (9000 + (y0 : Int))) = some (iI (a4 6 + a4 7 + (9000 + (y0 : Int))), M5) := f5
    rw [h, show a4 6 + a4 7 + (9000 + (y0 : Int)) = 9000 + (y0 : Int) by omega]
  obtain ⟨a5, ha5⟩ : ∃ a5, a5 = chaA a4 0 (9000 + (y0 : Int)) := ⟨_, rfl⟩
  rw [← ha5] at p5
  have g5 : ∀ q, q ≠ 0 → q ≠ 6 → a5 q = a4 q := fun q q1 q2 => by rw [ha5]; unfold chaA; rw [uI_n (by omega), uI_n (by omega)]
  have s56 : a5 6 = 9000 + (y0 : Int) := by rw [ha5]; unfold chaA; rw [show 6 = 6 + 0 from rfl, uI_s, s4.2.2.2.2.1]; omega
  have J5 : JJ a5 := by rw [ha5]; exact J_charge J4 (by omega) (by omega) (by omega) _
  have s57 := g5 7 (by omega) (by omega)
  have s51 := g5 1 (by omega) (by omega)
  have s52 := g5 2 (by omega) (by omega)
  have s53 := g5 3 (by omega) (by omega)
  have s552 := g5 52 (by omega) (by omega)
  have s58 := g5 8 (by omega) (by omega)
  obtain ⟨M6, f6, p6⟩ := s_charge p5.1 p5.2 (m := 1) (by omega) (Y := 2000 + (y1 : Int)) (by omega) (by omega) (by omega)
  have f6' : f_X10_charge M5 1 (iI (2000 + (y1 : Int))) = some (iI (9000 + (y0 : Int) + (2000 + (y1 : Int))), M6) := by
    have h : f_X10_charge M5 1 (iI (2000 + (y1 : Int))) = some (iI (a5 6 + a5 7 + (2000 + (y1 : Int))), M6) := f6
    rw [h, show a5 6 + a5 7 + (2000 + (y1 : Int)) = 9000 + (y0 : Int) + (2000 + (y1 : Int)) by omega]
  have J6 : JJ (chaA a5 1 (2000 + (y1 : Int))) := J_charge J5 (by omega) (by omega) (by omega) _
  have g6 : ∀ q, q ≠ 1 → q ≠ 7 → chaA a5 1 (2000 + (y1 : Int)) q = a5 q := fun q q1 q2 => by unfold chaA; rw [uI_n (by omega), uI_n (by omega)]
  have n9 : (9000 : Int32) + iI (y0 : Int) = iI (9000 + (y0 : Int)) := by rw [show (9000 : Int32) = iI 9000 from rfl, iI_add]
  have n2 : (2000 : Int32) + iI (y1 : Int) = iI (2000 + (y1 : Int)) := by rw [show (2000 : Int32) = iI 2000 from rfl, iI_add]
  unfold f_L_law
  rw [e1', bnd1_s', ey0, bnd2_s, e7', bnd1_s', ey1, bnd2_s, s_undo_no vc, bnd2_s, if_pos rfl, f1, bnd2_s, if_neg no, f2, bnd2_s, if_neg no, f3', bnd2_s, if_pos rfl, f4', bnd2_s, if_pos rfl, n9, f5', bnd2_s, if_pos rfl, n2, f6', bnd2_s, if_pos (by rw [iI_add])]
  refine l_w125 xs hL 36 FU 0 M6 (by omega) (by unfold FU; omega) ⟨_, _, _, _, _, p6.1, p6.2.up (by omega), J6, ?_, ?_, ?_⟩
  · rw [g6 2 (by omega) (by omega)]; omega
  · rw [g6 3 (by omega) (by omega)]; omega
  · rw [g6 52 (by omega) (by omega)]; omega
