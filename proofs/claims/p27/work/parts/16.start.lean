/-! THE START: what all cells hold behind the constructor. -/
def M0 : MM := fun G i => if 40 ≤ G ∧ G < 45 then sFirst i else if 50 ≤ G ∧ G < 55 then Int32.ofNat i else if G = 35 then Int32.ofNat (i + 1) else if 70 ≤ G ∧ G < 76 ∧ i = 2 then 1 else 0
abbrev cR (x : Nat) : CV := .inr (some x)
abbrev cI (x : Int32) : CV := .inl x
abbrev cMx (a b : Int32) : CE := .inl (6, [.inl a, .inl b])
abbrev cAI (n : Nat) (f : Nat → Int32) : CE := .inr (0, n, .inl f)
abbrev cAR (j n : Nat) (f : Nat → Nat) : CE := .inr (j, n, .inr (fun i => some (f i)))
def cW (k : Nat) (r : Nat) : CE :=
  if r = 0 then (.inl (9, [cR (wB k + 1), cR (wB k + 2), cR (wB k + 3), cR (wB k + 4), cR (wB k + 5), cR (wB k + 31), cR (wB k + 32), cR (wB k + 33), cI (M0 k 52), cI (M0 k 53), cR (wB k + 34), cR (wB k + 35)]))
  else if r = 1 then cMx (M0 k 2) (M0 k 3)
  else if r = 2 then cMx (M0 k 0) (M0 k 1)
  else if r = 3 then cMx (M0 k 4) (M0 k 5)
  else if r = 4 then cMx (M0 k 6) (M0 k 7)
  else if r = 5 then (.inl (2, [cR (wB k + 6), cI (M0 k 8)]))
  else if r = 6 then cAR 3 12 (fun i => wB k + (7 + 2 * (M0 (50 + k) i).toNatClampNeg))
  else if r < 31 then (if r % 2 = 1 then (.inl (5, [cR (wB k + (8 + 2 * ((r - 7) / 2))), cI (M0 k (11 + 3 * ((r - 7) / 2)))])) else cMx (M0 k (9 + 3 * ((r - 7) / 2))) (M0 k (10 + 3 * ((r - 7) / 2))))
  else if r = 31 then cAI 7 (M0 (40 + k))
  else if r = 32 then cAR 4 100 (fun i => wB k + (36 + 2 * i))
  else if r = 33 then cAR 5 100 (fun i => wB k + (236 + i))
  else if r = 34 then cMx (M0 (60 + k) 0) (M0 (60 + k) 1)
  else if r = 35 then cMx (M0 (65 + k) 0) (M0 (65 + k) 1)
  else if r < 236 then (if r % 2 = 0 then (.inl (0, [cR (wB k + (37 + 2 * ((r - 36) / 2))), cI (M0 k (56 + 8 * ((r - 36) / 2))), cI (M0 k (57 + 8 * ((r - 36) / 2))), cI (M0 k (58 + 8 * ((r - 36) / 2))), cI (M0 k (59 + 8 * ((r - 36) / 2))), cI (M0 k (60 + 8 * ((r - 36) / 2))), cI (M0 k (61 + 8 * ((r - 36) / 2)))])) else cMx (M0 k (54 + 8 * ((r - 36) / 2))) (M0 k (55 + 8 * ((r - 36) / 2))))
  else (.inl (7, [cI (M0 k (854 + 4 * (r - 236))), cI (M0 k (855 + 4 * (r - 236))), cI (M0 k (856 + 4 * (r - 236))), cI (M0 k (857 + 4 * (r - 236)))]))
def cRs (o : Nat) : CE :=
  if o = 1683 then (.inl (8, [cR 1684, cR 1685, cI (M0 7 0)]))
  else if o = 1684 then cAI 12 (M0 8)
  else if o = 1685 then cAI 4096 (M0 9)
  else if o = 1686 then (.inl (1, [cI (M0 10 0), cI (M0 10 1), cI (M0 10 2), cR 1687, cR 1688, cR 1689, cI (M0 10 6), cR 1690, cI (M0 10 8), cI (M0 10 9), cI (M0 10 10), cI (M0 10 11)]))
  else if o = 1687 then (.inl (4, [cI (M0 (70 + 5) 0), cI (M0 (70 + 5) 1), cI (M0 (70 + 5) 2)]))
  else if o = 1688 then cAR 7 5 (fun i => 1691 + i)
  else if o = 1689 then .inr (2, 5, .inl (M0 12))
  else if o = 1690 then cAI 100 (M0 13)
  else if o < 1696 then (.inl (4, [cI (M0 (70 + (o - 1691)) 0), cI (M0 (70 + (o - 1691)) 1), cI (M0 (70 + (o - 1691)) 2)]))
  else .inr (1, 60, .inl (M0 14))
def tmC (o : Nat) : CE :=
  if o = 0 then (.inl (10, [cR 1, cR 337, cR 1683, cR 1686, cR 1696, cI (M0 5 0)]))
  else if o < 337 then cW 0 (o - 1)
  else if o = 337 then (.inl (3, [cR 338, cI (M0 6 0)]))
  else if o = 338 then cAR 6 4 (fun i => wB (M0 35 i).toNatClampNeg)
  else if o < 1683 then cW ((o - 339) / 336 + 1) ((o - 339) % 336)
  else cRs o
theorem cW_eq (g : GD) (k r : Nat) : enc g (cW k r) = tW g k M0 r := by
  unfold cW tW
  simp only [apply_ite (enc g)]
  rfl
theorem cRs_eq (g : GD) (o : Nat) : enc g (cRs o) = tR g M0 o := by
  unfold cRs tR
  simp only [apply_ite (enc g)]
  rfl
theorem tmC_eq (g : GD) (o : Nat) : enc g (tmC o) = tm g M0 o := by
  unfold tmC tm
  simp only [apply_ite (enc g), cW_eq, cRs_eq]
  rfl
/-- the two tell the same cells -/
def sameC (a b : CE) : Bool := match a, b with
  | .inl x, .inl y => decide (x.1 = y.1) && decide (x.2 = y.2)
  | .inr (j, n, .inl f), .inr (j', n', .inl f') => decide (j = j') && decide (n = n') && (List.range n).all (fun i => decide (f i = f' i))
  | .inr (j, n, .inr f), .inr (j', n', .inr f') => decide (j = j') && decide (n = n') && (List.range n).all (fun i => decide (f i = f' i))
  | _, _ => false
theorem arrV_ext {cA : ClassId} {n : Nat} {f f' : Nat → Value} (h : ∀ i, i < n → f i = f' i) : arrV cA n f = arrV cA n f' := by
  unfold arrV
  congr 2
  funext i
  exact h i.1 i.2
theorem sameC_at {g : GD} {a b : CE} {q : Nat} {H : Heap} (h : sameC a b = true) (ha : va_at g.1 vwCl (q, enc g a) H) : va_at g.1 vwCl (q, enc g b) H := by
  obtain x | ⟨j, n, f | f⟩ := a
  · obtain y | ⟨j', n', f' | f'⟩ := b
    · simp only [sameC, Bool.and_eq_true, decide_eq_true_eq] at h
      obtain ⟨h1, h2⟩ := h
      obtain ⟨x1, x2⟩ := x
      obtain ⟨y1, y2⟩ := y
      dsimp only at h1 h2
      subst h1; subst h2
      exact ha
    · simp [sameC] at h
    · simp [sameC] at h
  · obtain y | ⟨j', n', f' | f'⟩ := b
    · simp [sameC] at h
    · simp only [sameC, Bool.and_eq_true, decide_eq_true_eq, List.all_eq_true, List.mem_range] at h
      obtain ⟨⟨rfl, rfl⟩, h3⟩ := h
      show H[q]? = some (vp_cell _ _)
      have e : H[q]? = some (vp_cell _ _) := ha
      rw [e, vp_cell_i, vp_cell_i, arrV_ext (fun i hi => by rw [h3 i hi])]
    · simp [sameC] at h
  · obtain y | ⟨j', n', f' | f'⟩ := b
    · simp [sameC] at h
    · simp [sameC] at h
    · simp only [sameC, Bool.and_eq_true, decide_eq_true_eq, List.all_eq_true, List.mem_range] at h
      obtain ⟨⟨rfl, rfl⟩, h3⟩ := h
      show H[q]? = some (vp_cell _ _)
      have e : H[q]? = some (vp_cell _ _) := ha
      rw [e, vp_cell_q, vp_cell_q, arrV_ext (fun i hi => by rw [h3 i hi])]
def ct0 : CT := fun _ => cMx 0 0
def blankBF : CE := .inl (10, [.inr none, .inr none, .inr none, .inr none, .inr none, .inl 0])
