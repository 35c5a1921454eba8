/-! The calls: charge, set, melt, lot, bell. -/
def sLo (j : Nat) : Int := if j < 5 then 0 else 1
def sHi (j : Nat) : Int := if j = 0 then 50 else if j = 1 then 100 else if j < 4 then 1000 else if j = 4 then 300 else if j = 5 then 50 else 20000
theorem sFrom_e : ∀ j : Nat, j < 7 → sFrom j = iI (sLo j) := by decide +kernel
theorem sTo_e : ∀ j : Nat, j < 7 → sTo j = iI (sHi j) := by decide +kernel
theorem BS_set {a : Nat → Int} {j : Nat} {Y : Int} (h : BS a) (hj : j < 7) (hY : sLo j ≤ Y ∧ Y ≤ sHi j) : BS (uI a (45 + j) Y) := by
  unfold BS at *
  have h2 : j = 0 ∨ j = 1 ∨ j = 2 ∨ j = 3 ∨ j = 4 ∨ j = 5 ∨ j = 6 := by omega
  rcases h2 with rfl | rfl | rfl | rfl | rfl | rfl | rfl <;> (simp [sLo, sHi] at hY; simp [uI]; omega)
theorem Bd.set {k k' : Int} {a : Nat → Int} {j : Nat} {Y : Int} (h : Bd k a) (hk : k ≤ k') (hj : j < 7) (hY : sLo j ≤ Y ∧ Y ≤ sHi j) : Bd k' (uI a (45 + j) Y) := by
  obtain ⟨h1, h2, h3, h4, h5, h6, h7⟩ := h.mono hk
  have e : ∀ q, (q < 45 ∨ 52 ≤ q) → uI a (45 + j) Y q = a q := fun q hq => uI_n (by omega)
  refine ⟨?_, BS_set h2 hj hY, fun i hi => ?_, fun b hb => ?_, fun o ho => ?_, ?_, ?_⟩
  · unfold BM at h1 ⊢
    rw [e 0 (by omega), e 1 (by omega), e 6 (by omega), e 7 (by omega), e 8 (by omega), e 52 (by omega), e 53 (by omega)]
    exact h1
  · have := h3 i hi
    unfold BL at this ⊢
    rw [e (9 + 3 * i) (by omega), e (10 + 3 * i) (by omega), e (11 + 3 * i) (by omega)]
    exact this
  · rw [e 52 (by omega)] at hb
    have := h4 b hb
    unfold BB at this ⊢
    rw [e (54 + 8 * b) (by omega), e (55 + 8 * b) (by omega), e (56 + 8 * b) (by omega), e (57 + 8 * b) (by omega), e (58 + 8 * b) (by omega), e (59 + 8 * b) (by omega), e (60 + 8 * b) (by omega), e (61 + 8 * b) (by omega)]
    exact this
  · rw [e 53 (by omega)] at ho
    have := h5 o ho
    unfold BO at this ⊢
    rw [e (854 + 4 * o) (by omega), e (855 + 4 * o) (by omega), e (856 + 4 * o) (by omega), e (857 + 4 * o) (by omega)]
    exact this
  · unfold hereN at h6 ⊢
    rw [e 52 (by omega), cn_congr (Q := hereP a) (fun i hi => by unfold hereP; rw [e _ (by omega)])]
    exact h6
  · unfold openN at h7 ⊢
    rw [e 53 (by omega), cn_congr (Q := openP a) (fun i hi => by unfold openP; rw [e _ (by omega)])]
    exact h7
