/-! The calls: cancel, order, send, count. -/
def ordA (a : Nat → Int) (o : Nat) (p q s : Int) : Nat → Int := uI (uI (uI (uI (uI a (854 + 4 * o) p) (855 + 4 * o) q) (856 + 4 * o) s) (857 + 4 * o) 0) 53 (a 53 + 1)
theorem Bd_ordA {k k' : Int} {a : Nat → Int} {o : Nat} {p q s : Int} (h : Bd k a) (hk : k ≤ k') (e : a 53 = o) (ho : o < 100) (hp : 0 ≤ p ∧ p ≤ 3) (hq : 1 ≤ q ∧ q ≤ 20000) (hs : 0 ≤ s ∧ s ≤ 500) (hN : openN a ≠ 8) : Bd k' (ordA a o p q s) := by
  obtain ⟨h1, h2, h3, h4, h5, h6, h7⟩ := h.mono hk
  have e' : ∀ q', q' ≠ 53 → (q' < 854 + 4 * o ∨ 858 + 4 * o ≤ q') → ordA a o p q s q' = a q' := fun q' g1 g2 => by
    show uI _ _ _ _ = _
    rw [uI_n (by omega), uI_n (by omega), uI_n (by omega), uI_n (by omega), uI_n (by omega)]
  have e53 : ordA a o p q s 53 = o + 1 := by show uI _ _ _ _ = _; rw [uI_s, e]
  have f0 : ordA a o p q s (854 + 4 * o) = p := by show uI _ _ _ _ = _; rw [uI_n (by omega), uI_n (by omega), uI_n (by omega), uI_n (by omega), uI_s]
  have f1 : ordA a o p q s (855 + 4 * o) = q := by show uI _ _ _ _ = _; rw [uI_n (by omega), uI_n (by omega), uI_n (by omega), uI_s]
  have f2 : ordA a o p q s (856 + 4 * o) = s := by show uI _ _ _ _ = _; rw [uI_n (by omega), uI_n (by omega), uI_s]
  have f3 : ordA a o p q s (857 + 4 * o) = 0 := by show uI _ _ _ _ = _; rw [uI_n (by omega), uI_s]
  have e52 := e' 52 (by omega) (by omega)
  refine ⟨?_, h2.congr (fun q _ _ => e' q (by omega) (by omega)), fun i hi => (h3 i hi).congr (fun q _ _ => e' q (by omega) (by omega)), fun b hb => ?_, fun o' ho' => ?_, ?_, ?_⟩
  · unfold BM at h1 ⊢
    rw [e' 0 (by omega) (by omega), e' 1 (by omega) (by omega), e' 6 (by omega) (by omega), e' 7 (by omega) (by omega), e' 8 (by omega) (by omega), e52, e53]
    omega
  · unfold BM at h1
    rw [e52] at hb
    exact (h4 b hb).congr (fun q _ _ => e' q (by omega) (by omega))
  · rw [e53] at ho'
    by_cases c : o' = o
    · subst c
      unfold BO
      rw [f0, f1, f2, f3]; omega
    · exact (h5 o' (by omega)).congr (fun q _ _ => e' q (by omega) (by omega))
  · unfold BM at h1
    unfold hereN at h6 ⊢
    rw [e52, cn_congr (Q := hereP a) (fun i hi => by unfold hereP; rw [e' _ (by omega) (by omega)])]
    exact h6
  · unfold openN at h7 hN ⊢
    rw [e53, show ((o : Int) + 1).toNat = o + 1 by omega]
    have : cn (openP (ordA a o p q s)) o = cn (openP a) o := cn_congr (fun i hi => by unfold openP; rw [e' _ (by omega) (by omega)])
    have h8 := cn_s (P := openP (ordA a o p q s)) (n := o) (by unfold openP; rw [f3]; rfl)
    rw [e, show ((o : Int)).toNat = o by omega] at h7 hN
    omega
