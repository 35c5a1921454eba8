/-! THE WORLD: one fixed layout of all cells of the class from z on; what they hold is read off one function M : group → place → Int32. Groups 0..4: the five Works, laid out as the reference lays its row s; 40+k settings, 50+k the row of lots, 60+k ladle, 65+k burnt; 5 BellFoundry, 6 History, 35 its row, 7 packer, 8 weights, 9 best, 10 reader, 12 behindComma, 13 hangs, 14 text, 70+q loads (75 the latest), 20 the reference's numbers, 21..31 its rows. -/
def WW : List Cond := lw_tbl.filter goodWord
theorem wwT {w : Cond} (i : Nat) (h : tables_1[i]? = some w) (g : goodWord w = true) : w ∈ WW :=
  List.mem_filter.mpr ⟨List.mem_append_right _ (List.mem_of_getElem? h), g⟩
theorem wwS {q : MethodName × Nat} (i : Nat) (h : lw_privs[i]? = some q) (g : goodWord (Cond.selects q.1.cls q.1 q.1) = true) : Cond.selects q.1.cls q.1 q.1 ∈ WW :=
  List.mem_filter.mpr ⟨List.mem_append_left _ (List.mem_map.mpr ⟨q, List.mem_of_getElem? h, rfl⟩), g⟩
def wm (y : MethodName) (c : ByteArray) (n : Nat) (r : Option FieldType) : List Cond := Cond.code y c n r :: WW
theorem wm_good {y : MethodName} {c : ByteArray} {n : Nat} {r : Option FieldType} (h : Cond.code y c n r ∈ WW) : GoodIn WW (wm y c n r) := fun w hw => by
  have h1 : w ∈ WW := by
    rcases List.mem_cons.mp hw with h2 | h2
    · rw [h2]; exact h
    · exact h2
  exact ⟨h1, good_of_word (List.mem_filter.mp h1).2⟩
abbrev MM : Type := Nat → Nat → Int32
def up2 (M : MM) (g i : Nat) (x : Int32) : MM := fun g' => if g' = g then upd (M g) i x else M g'
theorem up2_eq (M : MM) (g i : Nat) (x : Int32) : up2 M g i x g i = x := by simp [up2, upd]
theorem up2_gr (M : MM) (g i : Nat) (x : Int32) : up2 M g i x g = upd (M g) i x := by simp [up2]
theorem up2_gn {M : MM} {g i : Nat} {x : Int32} {g' : Nat} (h : g' ≠ g) : up2 M g i x g' = M g' := by simp [up2, h]
theorem up2_in {M : MM} {g i : Nat} {x : Int32} {i' : Nat} (g' : Nat) (h : i' ≠ i) : up2 M g i x g' i' = M g' i' := by
  by_cases hg : g' = g
  · subst hg; simp [up2, upd, h]
  · simp [up2, hg]
/-- D, the arrays' classes, the first address, the addresses of the static rows -/
abbrev GD : Type := va_G × (Nat → ClassId) × Nat × (Nat → Nat)
abbrev zz (g : GD) : Nat := g.2.2.1
/-- the cells of the class; all from z on -/
abbrev AA (g : GD) : Nat → Prop := fun q => zz g ≤ q ∧ q < zz g + 1697
abbrev AU (g : GD) : Nat → Prop := fun q => zz g ≤ q
abbrev TY (cy : Nat → ClassId) : List (ClassId × FieldType) := [(cy 0, .int), (cy 1, .char), (cy 2, .boolean), (cy 3, .object "BellFoundry$Lot"), (cy 4, .object "BellFoundry$Bell"), (cy 5, .object "BellFoundry$Order"), (cy 6, .object "BellFoundry$Works"), (cy 7, .object "BellFoundry$Load")]
def wB (k : Nat) : Nat := if k = 0 then 1 else 336 * k + 3
theorem wB_lt {k r : Nat} (hk : k < 5) (hr : r < 336) : wB k + r < 1697 := by unfold wB; split <;> omega
abbrev rf (g : GD) (o : Nat) : Value := .ref (zz g + o)
abbrev aI (g : GD) (n : Nat) (f : Nat → Int32) : va_E := .inl (g.2.1 0, n, .inl f)
abbrev aC (g : GD) (n : Nat) (f : Nat → Int32) : va_E := .inl (g.2.1 1, n, .inl f)
abbrev aZ (g : GD) (n : Nat) (f : Nat → Int32) : va_E := .inl (g.2.1 2, n, .inl f)
abbrev aR (g : GD) (j n : Nat) (f : Nat → Nat) : va_E := .inl (g.2.1 j, n, .inr (.inr (.inr (.inr (fun i => some (zz g + f i))))))
abbrev mxE (a b : Int32) : va_E := .inr (6, [.int a, .int b])
abbrev eWorks (g : GD) (k : Nat) (M : MM) : va_E := .inr (9, [rf g (wB k + 1), rf g (wB k + 2), rf g (wB k + 3), rf g (wB k + 4), rf g (wB k + 5), rf g (wB k + 31), rf g (wB k + 32), rf g (wB k + 33), .int (M k 52), .int (M k 53), rf g (wB k + 34), rf g (wB k + 35)])
abbrev eHeap (g : GD) (k : Nat) (M : MM) : va_E := .inr (2, [rf g (wB k + 6), .int (M k 8)])
abbrev eLot (g : GD) (k q : Nat) (M : MM) : va_E := .inr (5, [rf g (wB k + (8 + 2 * q)), .int (M k (11 + 3 * q))])
abbrev eBell (g : GD) (k j : Nat) (M : MM) : va_E := .inr (0, [rf g (wB k + (37 + 2 * j)), .int (M k (56 + 8 * j)), .int (M k (57 + 8 * j)), .int (M k (58 + 8 * j)), .int (M k (59 + 8 * j)), .int (M k (60 + 8 * j)), .int (M k (61 + 8 * j))])
abbrev eOrder (k j : Nat) (M : MM) : va_E := .inr (7, [.int (M k (854 + 4 * j)), .int (M k (855 + 4 * j)), .int (M k (856 + 4 * j)), .int (M k (857 + 4 * j))])
def tW (g : GD) (k : Nat) (M : MM) (r : Nat) : va_E :=
  if r = 0 then eWorks g k M
  else if r = 1 then mxE (M k 2) (M k 3)
  else if r = 2 then mxE (M k 0) (M k 1)
  else if r = 3 then mxE (M k 4) (M k 5)
  else if r = 4 then mxE (M k 6) (M k 7)
  else if r = 5 then eHeap g k M
  else if r = 6 then aR g 3 12 (fun i => wB k + (7 + 2 * (M (50 + k) i).toNatClampNeg))
  else if r < 31 then (if r % 2 = 1 then eLot g k ((r - 7) / 2) M else mxE (M k (9 + 3 * ((r - 7) / 2))) (M k (10 + 3 * ((r - 7) / 2))))
  else if r = 31 then aI g 7 (M (40 + k))
  else if r = 32 then aR g 4 100 (fun i => wB k + (36 + 2 * i))
  else if r = 33 then aR g 5 100 (fun i => wB k + (236 + i))
  else if r = 34 then mxE (M (60 + k) 0) (M (60 + k) 1)
  else if r = 35 then mxE (M (65 + k) 0) (M (65 + k) 1)
  else if r < 236 then (if r % 2 = 0 then eBell g k ((r - 36) / 2) M else mxE (M k (54 + 8 * ((r - 36) / 2))) (M k (55 + 8 * ((r - 36) / 2))))
  else eOrder k (r - 236) M
abbrev eBF (g : GD) (M : MM) : va_E := .inr (10, [rf g 1, rf g 337, rf g 1683, rf g 1686, rf g 1696, .int (M 5 0)])
abbrev eHist (g : GD) (M : MM) : va_E := .inr (3, [rf g 338, .int (M 6 0)])
abbrev ePack (g : GD) (M : MM) : va_E := .inr (8, [rf g 1684, rf g 1685, .int (M 7 0)])
abbrev eRead (g : GD) (M : MM) : va_E := .inr (1, [.int (M 10 0), .int (M 10 1), .int (M 10 2), rf g 1687, rf g 1688, rf g 1689, .int (M 10 6), rf g 1690, .int (M 10 8), .int (M 10 9), .int (M 10 10), .int (M 10 11)])
abbrev eLoad (q : Nat) (M : MM) : va_E := .inr (4, [.int (M (70 + q) 0), .int (M (70 + q) 1), .int (M (70 + q) 2)])
def tR (g : GD) (M : MM) (o : Nat) : va_E :=
  if o = 1683 then ePack g M
  else if o = 1684 then aI g 12 (M 8)
  else if o = 1685 then aI g 4096 (M 9)
  else if o = 1686 then eRead g M
  else if o = 1687 then eLoad 5 M
  else if o = 1688 then aR g 7 5 (fun i => 1691 + i)
  else if o = 1689 then aZ g 5 (M 12)
  else if o = 1690 then aI g 100 (M 13)
  else if o < 1696 then eLoad (o - 1691) M
  else aC g 60 (M 14)
def tm (g : GD) (M : MM) (o : Nat) : va_E :=
  if o = 0 then eBF g M
  else if o < 337 then tW g 0 M (o - 1)
  else if o = 337 then eHist g M
  else if o = 338 then aR g 6 4 (fun i => wB (M 35 i).toNatClampNeg)
  else if o < 1683 then tW g ((o - 339) / 336 + 1) M ((o - 339) % 336)
  else tR g M o
def wlN (z n : Nat) (ct : Nat → va_E) : va_W := (List.range n).map (fun o => (z + o, ct o))
theorem wlN_get {z n : Nat} {ct : Nat → va_E} {o : Nat} (h : o < n) : (wlN z n ct)[o]? = some (z + o, ct o) := by simp [wlN, h]
theorem wlN_len (z n : Nat) (ct : Nat → va_E) : (wlN z n ct).length = n := by simp [wlN]
theorem wlN_set {z n : Nat} {ct ct' : Nat → va_E} {o : Nat} {e : va_E} (ho : ct' o = e) (hn : ∀ q, q < n → q ≠ o → ct' q = ct q) : (wlN z n ct).set o (z + o, e) = wlN z n ct' := by
  apply List.ext_getElem?
  intro i
  by_cases hi : i < n
  · rw [wlN_get hi, List.getElem?_set]
    by_cases h : o = i
    · subst h; simp [wlN_len, hi, ho]
    · rw [if_neg h, wlN_get hi, hn i hi (Ne.symm h)]
  · rw [List.getElem?_eq_none (by simp [wlN_len]; omega), List.getElem?_eq_none (by simp [wlN_len]; omega)]
theorem wlN_push {z n : Nat} {ct ct' : Nat → va_E} {e : va_E} (he : ct' n = e) (hn : ∀ q, q < n → ct' q = ct q) : wlN z n ct ++ [(z + n, e)] = wlN z (n + 1) ct' := by
  unfold wlN
  rw [List.range_succ, List.map_append]
  congr 1
  · exact List.map_congr_left (fun q hq => by rw [hn q (List.mem_range.mp hq)])
  · simp [he]
theorem wlN_D (z n : Nat) (ct : Nat → va_E) : va_D (fun q => z ≤ q) (wlN z n ct) := by
  have key : ∀ (k : Nat) (q : Nat × va_E), (wlN z n ct)[k]? = some q → q.1 = z + k := by
    intro k q h
    have hk : k < n := by have := (List.getElem?_eq_some_iff.mp h).1; rwa [wlN_len] at this
    rw [wlN_get hk] at h
    cases h; rfl
  exact ⟨fun i j p q h1 h2 e => by have := key i p h1; have := key j q h2; omega, fun k q h => by rw [key k q h]; exact Nat.le_add_right _ _⟩
def Wd (g : GD) (M : MM) (H : Heap) : Prop := va_P g.1 vwCl (wlN (zz g) 1697 (tm g M)) H
theorem wlN_DA (g : GD) (ct : Nat → va_E) : va_D (AA g) (wlN (zz g) 1697 ct) := by
  refine ⟨(wlN_D (zz g) 1697 ct).1, fun k q h => ?_⟩
  have hk : k < 1697 := by have := (List.getElem?_eq_some_iff.mp h).1; rwa [wlN_len] at this
  rw [wlN_get hk] at h
  cases h
  exact ⟨Nat.le_add_right _ _, Nat.add_lt_add_left hk _⟩
