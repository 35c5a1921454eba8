section
/-! The call frame. -/
theorem lev_eq {a : Nat → Int} {L ds mn bm D : Nat} {sl V : Int} {hb dp c bc : Nat → Nat} (g : fgI a 3 L 0 mn bm ds sl hb dp c bc) (h : LVL a hb dp 0 mn 0 V D) (hw : ∀ k, k < mn → 0 ≤ wgt a (hb k)) : D = ds ∧ RU (2 ^ ds) (mxv (vl a hb dp 0) mn) = V := by
  obtain ⟨⟨g1, g2, g3, g4, g5, g6, g7, g8⟩, g9, g10, -⟩ := g
  obtain ⟨h1, h2, ⟨k1, k2, k3, k4⟩, h4, h5⟩ := h
  have hD : D = ds := by
    rcases g10 with ⟨q, q1, q2⟩ | ⟨q, _⟩
    · have a1 := (h2 q (by omega) q1).2.1
      have a2 := (g9 k1 k3).2.2
      omega
    · omega
  subst hD
  have hp := p2pos D
  have hV : 0 ≤ V := by
    have a1 := (h2 k1 k2 k3).2.2
    have a2 : 0 ≤ vl a hb dp 0 k1 := Int.mul_nonneg (hw k1 k3) (by have := p2pos (dp k1 - 0); omega)
    omega
  refine ⟨rfl, RU_un (by omega) h4 ((mxv_le hV mn).mpr (fun k hk => (h2 k (by omega) hk).2.2)) (fun q hq hle => h5 q hq (fun k _ hk => ?_))⟩
  have hm := (mxv_le (f := vl a hb dp 0) (mxv_nn mn) mn).mp (Int.le_refl _) k hk
  omega
end
