section
/-! The call pourFor. -/
theorem l_39 {M : MM} {k w : Nat} {x : Int32} {n : Int} (hn : 1 ≤ n) (hn2 : n ≤ 20000) : ∀ (j fu : Nat) (u : Int), u = rtI n + j → u ≤ 5000 → j < fu → lp_X9_heaviestBellFor_39 fu M k w x (iI u) (iI n) = some (x, iI (rtI n), iI n, M) := by
  have hb := rtI_b hn hn2
  have hr := rtI_is (w := n) (by omega) hn2
  intro j
  induction j with
  | zero =>
    intro fu u hu h5 hf
    obtain ⟨f, rfl⟩ : ∃ f, fu = f + 1 := ⟨fu - 1, by omega⟩
    have hu' : u = rtI n := by omega
    have hc := cubB (u := u) (by omega) (by omega)
    unfold lp_X9_heaviestBellFor_39
    rw [if_neg (by rw [Z1, iI_le (by omega) (by omega)]; omega), e_cube (by omega) (by omega), bnd2_s, mil (by omega) hn2, if_pos ((lgc0 (by omega) (by omega)).mpr (by rw [hu']; exact hr.2.1)), hu']
  | succ j ih =>
    intro fu u hu h5 hf
    obtain ⟨f, rfl⟩ : ∃ f, fu = f + 1 := ⟨fu - 1, by omega⟩
    have hc := cubB (u := u) (by omega) (by omega)
    have hx := (rt_lt hr (show 0 ≤ u by omega)).mpr (by omega)
    unfold lp_X9_heaviestBellFor_39
    rw [if_neg (by rw [Z1, iI_le (by omega) (by omega)]; omega), e_cube (by omega) (by omega), bnd2_s, mil (by omega) hn2, if_neg (fun q => by have := (lgc0 (by omega) (by omega)).mp q; omega), Zm1, iI_add]
    exact ih f _ (by omega) (by omega) (by omega)
theorem l_33 {M : MM} {a : Nat → Int} (R : RA (M 0) (M 40) (M 50) a) (S : BS a) {o : Nat} (ho : o < (a 53).toNat) (O : BO a o) {c0 t0 : Int} (h0 : M 65 0 = iI c0) (h1 : M 65 1 = iI t0) (hc : 0 ≤ c0) (ht : 0 ≤ t0) (hw : c0 + t0 ≤ 20000) : ∀ (n fu : Nat) (u : Int), (n : Int) ≤ c0 + t0 → n ≤ 10000 → n < fu → (0 < n → rtI n ≤ u) → u ≤ 5000 → lp_X9_heaviestBellFor_33 fu M 0 o (iI (c0 + t0)) (iI u) (iI n) = some (iI (pF c0 t0 (a 49) (a (854 + 4 * o)) (a (855 + 4 * o)) n), M) := by
  have S' := S
  unfold BS at S'
  have O' := O
  unfold BO at O'
  intro n
  induction n with
  | zero =>
    intro fu u _ _ hf _ _
    obtain ⟨f, rfl⟩ : ∃ f, fu = f + 1 := ⟨fu - 1, by omega⟩
    unfold lp_X9_heaviestBellFor_33
    rw [if_pos (by decide)]; rfl
  | succ n ih =>
    intro fu u hn hn2 hf hu hu2
    obtain ⟨f, rfl⟩ : ∃ f, fu = f + 1 := ⟨fu - 1, by omega⟩
    obtain ⟨z, hz⟩ : ∃ z : Int, z = ((n + 1 : Nat) : Int) := ⟨_, rfl⟩
    have hb := rtI_b (w := z) (by omega) (by omega)
    have hu3 := hu (by omega)
    have s1 := sh_nn (p := z) (s := a 49) (by omega) (by omega)
    have s2 := sh_le (p := z) (s := a 49) (by omega) (by omega) (by omega)
    have ez : iI z + (-1) = iI (n : Int) := by rw [Zm1, iI_add]; congr 1; omega
    have ihn := ih f (rtI z) (by omega) (by omega) (by omega) (fun _ => rtI_mono (by omega) (by omega) (by omega)) (by omega)
    have ws : f_X9_weightWithSprue M 0 (iI z) = some (iI (z + sh z (a 49)), M) := by
      unfold f_X9_weightWithSprue
      rw [c_sprueOf R S (by omega) (by omega), bnd2_s, iI_add]
    show _ = some (iI (if gdP c0 t0 (a 49) (a (854 + 4 * o)) (a (855 + 4 * o)) ((n + 1 : Nat) : Int) then ((n + 1 : Nat) : Int) else pF c0 t0 (a 49) (a (854 + 4 * o)) (a (855 + 4 * o)) n), M)
    rw [← hz]
    unfold lp_X9_heaviestBellFor_33
    rw [if_neg (by rw [Z1, iI_lt (by omega) (by omega)]; omega), l_39 (n := z) (by omega) (by omega) (u - rtI z).toNat FU u (by rw [← hz] at hu3; omega) (by omega) (by unfold FU; omega), bnd4_s, ws, bnd2_s]
    by_cases c : c0 + t0 < z + sh z (a 49)
    · rw [if_pos (by rw [iI_lt (by omega) (by omega)]; exact c), if_neg (fun q => by have := q.1; omega), ez]
      exact ihn
    · have c1 := cin_nn (n := z) (c := c0) (t := t0) (by omega) hc ht
      have c2 := cin_le (n := z) (c := c0) (t := t0) (by omega) hc ht (by omega)
      have m0 : z * c0 ≤ 20000 * c0 := Int.mul_le_mul_of_nonneg_right (by omega) hc
      have al1 := alo_nn (c := cin z c0 t0) (t := z - cin z c0 t0) (by omega) (by omega)
      have al2 := alo_le (c := cin z c0 t0) (t := z - cin z c0 t0) (by omega) (by omega)
      have pb := pit_b (p := a (854 + 4 * o)) (r := rtI z) (by omega) al1 al2
      have ea : f_X6_alloyOfDraw M (65 + 0) 0 (iI z) = some (iI (alo (cin z c0 t0) (z - cin z c0 t0)), M) := by
        unfold f_X6_alloyOfDraw
        rw [e_copperOfDraw (G := 65 + 0) (i := 0) (c := c0) (t := t0) h0 h1 (by omega) hc ht (by omega) (by omega) (by omega), bnd2_s, iI_sub, e_alloyOf (by omega) (by omega) (by omega), bnd2_s, show z - (z - cin z c0 t0) = cin z c0 t0 by omega]
      rw [if_neg (by rw [iI_lt (by omega) (by omega)]; exact c), ea, bnd2_s, R.o0 ho, c_firstPitch (by omega) (by omega) (by omega) al1 al2, bnd2_s, R.o1 ho]
      by_cases d : pit (a (854 + 4 * o)) (rtI z) (alo (cin z c0 t0) (z - cin z c0 t0)) < a (855 + 4 * o)
      · rw [if_pos (by rw [iI_lt (by omega) (by omega)]; exact d), if_neg (fun q => by have := q.2; omega), ez]
        exact ihn
      · rw [if_neg (by rw [iI_lt (by omega) (by omega)]; exact d), if_pos ⟨by omega, by omega⟩]
theorem l_root1 {M : MM} : ∀ (i fu : Nat), (2 : Int) ^ i ≤ 4096 → i + 1 < fu → lp_X10_rootOf_6 fu M (iI 0) (iI 1) (iI (2 ^ i)) = some (iI 1, M) := by
  have h0 : isRt (1000000 * 0) 0 := ⟨by omega, by omega, by omega⟩
  have step : ∀ (fu : Nat) (z : Int), 1 ≤ z → z ≤ 4096 → lp_X10_rootOf_6 (fu + 1) M (iI 0) (iI 1) (iI z) = lp_X10_rootOf_6 fu M (iI 0) (iI 1) (iI z / 2) := by
    intro fu z hz hb
    have hc := cubB (u := 1 + z) (by omega) (by omega)
    rw [lp_X10_rootOf_6]
    rw [if_neg (by rw [Z1, iI_lt (by omega) (by omega)]; omega), iI_add, e_cube (by omega) (by omega), bnd2_s, mil (by omega) (by omega), if_pos ((lgc (by omega) (by omega)).mpr ((rt_lt h0 (by omega)).mpr (by omega)))]
  intro i
  induction i with
  | zero =>
    intro fu h3 hf
    obtain ⟨f, rfl⟩ : ∃ f, fu = f + 1 + 1 := ⟨fu - 2, by omega⟩
    rw [show (2 : Int) ^ 0 = 1 from rfl, step (f + 1) 1 (by omega) (by omega), show iI 1 / 2 = iI 0 from by decide]
    unfold lp_X10_rootOf_6
    rw [if_pos (by decide)]
  | succ i ih =>
    intro fu h3 hf
    obtain ⟨f, rfl⟩ : ∃ f, fu = f + 1 := ⟨fu - 1, by omega⟩
    have hp := p2pos (i + 1)
    have e : (2 : Int) ^ (i + 1) = 2 * 2 ^ i := by rw [Int.pow_succ, Int.mul_comm]
    have hq := p2pos i
    rw [step f (2 ^ (i + 1)) hp h3, half (by omega)]
    exact ih f (by omega) (by omega)
theorem c_rootOf0 (M : MM) : f_X10_rootOf M (iI 0) = some (iI 1, M) := l_root1 11 FU (by decide) (by unfold FU; omega)
end
