/-! The calls: metal, settings, text. -/
theorem ofI (x : Int32) : ∃ X : Int, B31 X ∧ x = iI X := ⟨_, iI_B x, iI_of x⟩
theorem VC.txt {M M1 : MM} {a : Nat → Int} {n : Nat} {H : Nat → Nat → Int} {L L' : Nat} {t t' : Nat → Int} (h : VC M a n H L t) (hF : ∀ G, G ≠ 5 → G ≠ 14 → M1 G = M G) (h5 : M1 5 0 = iI L') (h14 : ∀ i, i < L' → M1 14 i = iI (t' i)) : VC M1 a n H L' t' := by
  obtain ⟨h1, ⟨g1, g2, g3, g4, g5, g6⟩, h3, h4⟩ := h
  refine ⟨?_, ⟨?_, g2, ?_, ?_, ?_, ?_⟩, h5, h14⟩
  · rw [hF 0 (by omega) (by omega), hF 40 (by omega) (by omega), hF 50 (by omega) (by omega)]; exact h1
  · rw [hF 6 (by omega) (by omega)]; exact g1
  · rw [hF 35 (by omega) (by omega)]; exact g3
  · rw [hF 35 (by omega) (by omega)]; exact g4
  · intro k hk; rw [hF _ (by omega) (by omega)]; exact g5 k hk
  · intro i hi
    have := g3 i (by omega)
    rw [hF 35 (by omega) (by omega), hF (pm (M 35) i) (by omega) (by omega), hF (40 + pm (M 35) i) (by omega) (by omega), hF (50 + pm (M 35) i) (by omega) (by omega)]
    exact g6 i hi
theorem nar_ch : ∀ n : Nat, n < 127 → vp_nar .char (((Int32.ofNat n).toUInt32 % 65536).toInt32) = Int32.ofNat n := by decide +kernel
theorem c_of (M : MM) (G i : Nat) {m : Nat} (hm : m ≤ 1) : f_X6_of M G i (iI m) = some (M G (i + m), M) := by
  have h : m = 0 ∨ m = 1 := by omega
  rcases h with rfl | rfl
  · exact e_of0 M G i
  · exact e_of1 M G i
theorem c_put {M : MM} {a : Nat → Int} (R : RA (M 0) (M 40) (M 50) a) {q m : Nat} (hm : m ≤ 1) (hq : q + 1 < 8) (y : Int) : ∃ M1, f_X6_put M 0 q (iI m) (iI y) = some ((), M1) ∧ CW M M1 (uI a (q + m) (a (q + m) + y)) := by
  have h : m = 0 ∨ m = 1 := by omega
  rcases h with rfl | rfl
  · exact c_put0 R (by omega) y
  · exact c_put1 R hq y
