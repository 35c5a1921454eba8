section
/-! Frames: the reference's parts. -/
theorem nu_b {t : Nat → Int} {L i : Nat} (h : dgP t i) : 0 ≤ nuI t L i ∧ nuI t L i ≤ 99 := by
  unfold nuI
  split
  · rename_i q
    have := q.2
    unfold dgP at this h
    omega
  · unfold dgP at h; omega
end
