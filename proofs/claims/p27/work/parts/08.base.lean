/-! Small things that the walks use. -/
abbrev vin (i : Int32) (n : Nat) : Prop := ¬ (i < 0 ∨ n ≤ i.toNatClampNeg)
theorem vp_lt {i : Int32} {n : Nat} (h : vin i n) : i.toNatClampNeg < n := Nat.not_le.mp fun q => h (Or.inr q)
def FU : Nat := 20000
def letB {β : Type} (a : MM) (f : MM → β) : β := f a
theorem letE {β : Type} {a : MM} {f : MM → β} {b : β} (h : letB a f = b) : f a = b := h
def bnd1 {α β : Type} (o : Option α) (F : α → Option β) : Option β := o.bind F
def bnd2 {α1 α2 β : Type} (o : Option (α1 × α2)) (F : α1 → α2 → Option β) : Option β := o.bind (fun q => F q.1 q.2)
def bnd3 {α1 α2 α3 β : Type} (o : Option (α1 × α2 × α3)) (F : α1 → α2 → α3 → Option β) : Option β := o.bind (fun q => F q.1 q.2.1 q.2.2)
def bnd4 {α1 α2 α3 α4 β : Type} (o : Option (α1 × α2 × α3 × α4)) (F : α1 → α2 → α3 → α4 → Option β) : Option β := o.bind (fun q => F q.1 q.2.1 q.2.2.1 q.2.2.2)
def bnd5 {α1 α2 α3 α4 α5 β : Type} (o : Option (α1 × α2 × α3 × α4 × α5)) (F : α1 → α2 → α3 → α4 → α5 → Option β) : Option β := o.bind (fun q => F q.1 q.2.1 q.2.2.1 q.2.2.2.1 q.2.2.2.2)
def bnd6 {α1 α2 α3 α4 α5 α6 β : Type} (o : Option (α1 × α2 × α3 × α4 × α5 × α6)) (F : α1 → α2 → α3 → α4 → α5 → α6 → Option β) : Option β := o.bind (fun q => F q.1 q.2.1 q.2.2.1 q.2.2.2.1 q.2.2.2.2.1 q.2.2.2.2.2)
theorem bind1 {α β : Type} {o : Option α} {F : α → Option β} {b : β} (h : bnd1 o F = some b) : ∃ a, o = some a ∧ F a = some b := Option.bind_eq_some_iff.mp h
theorem bind2 {α1 α2 β : Type} {o : Option (α1 × α2)} {F : α1 → α2 → Option β} {b : β} (h : bnd2 o F = some b) : ∃ x1 x2, o = some (x1, x2) ∧ F x1 x2 = some b := by
  obtain ⟨⟨x1, x2⟩, h1, h2⟩ := Option.bind_eq_some_iff.mp h
  exact ⟨x1, x2, h1, h2⟩
theorem bind3 {α1 α2 α3 β : Type} {o : Option (α1 × α2 × α3)} {F : α1 → α2 → α3 → Option β} {b : β} (h : bnd3 o F = some b) : ∃ x1 x2 x3, o = some (x1, x2, x3) ∧ F x1 x2 x3 = some b := by
  obtain ⟨⟨x1, x2, x3⟩, h1, h2⟩ := Option.bind_eq_some_iff.mp h
  exact ⟨x1, x2, x3, h1, h2⟩
theorem bind4 {α1 α2 α3 α4 β : Type} {o : Option (α1 × α2 × α3 × α4)} {F : α1 → α2 → α3 → α4 → Option β} {b : β} (h : bnd4 o F = some b) : ∃ x1 x2 x3 x4, o = some (x1, x2, x3, x4) ∧ F x1 x2 x3 x4 = some b := by
  obtain ⟨⟨x1, x2, x3, x4⟩, h1, h2⟩ := Option.bind_eq_some_iff.mp h
  exact ⟨x1, x2, x3, x4, h1, h2⟩
theorem bind5 {α1 α2 α3 α4 α5 β : Type} {o : Option (α1 × α2 × α3 × α4 × α5)} {F : α1 → α2 → α3 → α4 → α5 → Option β} {b : β} (h : bnd5 o F = some b) : ∃ x1 x2 x3 x4 x5, o = some (x1, x2, x3, x4, x5) ∧ F x1 x2 x3 x4 x5 = some b := by
  obtain ⟨⟨x1, x2, x3, x4, x5⟩, h1, h2⟩ := Option.bind_eq_some_iff.mp h
  exact ⟨x1, x2, x3, x4, x5, h1, h2⟩
theorem bind6 {α1 α2 α3 α4 α5 α6 β : Type} {o : Option (α1 × α2 × α3 × α4 × α5 × α6)} {F : α1 → α2 → α3 → α4 → α5 → α6 → Option β} {b : β} (h : bnd6 o F = some b) : ∃ x1 x2 x3 x4 x5 x6, o = some (x1, x2, x3, x4, x5, x6) ∧ F x1 x2 x3 x4 x5 x6 = some b := by
  obtain ⟨⟨x1, x2, x3, x4, x5, x6⟩, h1, h2⟩ := Option.bind_eq_some_iff.mp h
  exact ⟨x1, x2, x3, x4, x5, x6, h1, h2⟩
abbrev jmax (x y : Int32) : Int32 := if x < y then y else x
abbrev jmin (x y : Int32) : Int32 := if y < x then y else x
abbrev jlmin (x y : Int64) : Int64 := if y < x then y else x
theorem nar01 {r : Int32} (h : r = 0 ∨ r = 1) : narrow .boolean (.int r) = .int r := by
  rcases h with rfl | rfl <;> rfl
def vBell (g : GD) (k : Nat) (r : Option Nat) : Value := match r with
  | none => .null
  | some j => rf g (wB k + (36 + 2 * j))
def vOrder (g : GD) (k : Nat) (r : Option Nat) : Value := match r with
  | none => .null
  | some j => rf g (wB k + (236 + j))
def vLot (g : GD) (k : Nat) (r : Option Nat) : Value := match r with
  | none => .null
  | some j => rf g (wB k + (7 + 2 * j))
def LD (o q : Nat) : Prop := (o = 1687 ∧ q = 5) ∨ (q < 5 ∧ o = 1691 + q)
theorem LD_latest : LD 1687 5 := Or.inl ⟨rfl, rfl⟩
theorem LD_first {q : Nat} (h : q < 5) : LD (1691 + q) q := Or.inr ⟨h, rfl⟩
theorem LD.lt {o q : Nat} (h : LD o q) : o < 1697 := by rcases h with ⟨rfl, -⟩ | ⟨h, rfl⟩ <;> omega
theorem LD.cel {g : GD} {M : MM} {o q : Nat} (h : LD o q) : tm g M o = eLoad q M := by
  rcases h with ⟨rfl, rfl⟩ | ⟨h, rfl⟩
  · rfl
  · exact tm_Load h
theorem LD.ob {o q : Nat} (h : LD o q) : o = ob (70 + q) := by
  rcases h with ⟨rfl, rfl⟩ | ⟨h, rfl⟩
  · rfl
  · exact (ob70 h).symm
theorem LD.up0 {g : GD} {M : MM} {o q : Nat} (h : LD o q) (x : Int32) : UPD g M (up2 M (70 + q) 0 x) o (.inr (4, [.int (x), .int (M (70 + q) 1), .int (M (70 + q) 2)])) := UPD_G (by omega) h.ob (by rw [h.cel]; simp only [eLoad]; rw [up2_eq, up2_in (70 + q) (i' := 1) (by decide), up2_in (70 + q) (i' := 2) (by decide)])
theorem LD.up1 {g : GD} {M : MM} {o q : Nat} (h : LD o q) (x : Int32) : UPD g M (up2 M (70 + q) 1 x) o (.inr (4, [.int (M (70 + q) 0), .int (x), .int (M (70 + q) 2)])) := UPD_G (by omega) h.ob (by rw [h.cel]; simp only [eLoad]; rw [up2_eq, up2_in (70 + q) (i' := 0) (by decide), up2_in (70 + q) (i' := 2) (by decide)])
theorem LD.up2 {g : GD} {M : MM} {o q : Nat} (h : LD o q) (x : Int32) : UPD g M (up2 M (70 + q) 2 x) o (.inr (4, [.int (M (70 + q) 0), .int (M (70 + q) 1), .int (x)])) := UPD_G (by omega) h.ob (by rw [h.cel]; simp only [eLoad]; rw [up2_eq, up2_in (70 + q) (i' := 0) (by decide), up2_in (70 + q) (i' := 1) (by decide)])
theorem upd_Works_poured {g : GD} {M : MM} {k : Nat} (hk : k < 5) (x : Int32) : UPD g M (up2 M k (52) x) (wB k) (.inr (9, [rf g (wB k + 1), rf g (wB k + 2), rf g (wB k + 3), rf g (wB k + 4), rf g (wB k + 5), rf g (wB k + 31), rf g (wB k + 32), rf g (wB k + 33), .int x, .int (M k 53), rf g (wB k + 34), rf g (wB k + 35)])) := UPD_W hk rfl (by rw [tm_Works0 hk]; simp only [eWorks]; rw [up2_eq, up2_in (k) (i' := 53) (by omega)])
theorem upd_Works_came {g : GD} {M : MM} {k : Nat} (hk : k < 5) (x : Int32) : UPD g M (up2 M k (53) x) (wB k) (.inr (9, [rf g (wB k + 1), rf g (wB k + 2), rf g (wB k + 3), rf g (wB k + 4), rf g (wB k + 5), rf g (wB k + 31), rf g (wB k + 32), rf g (wB k + 33), .int (M k 52), .int x, rf g (wB k + 34), rf g (wB k + 35)])) := UPD_W hk rfl (by rw [tm_Works0 hk]; simp only [eWorks]; rw [up2_eq, up2_in (k) (i' := 52) (by omega)])
theorem upd_Heap_size {g : GD} {M : MM} {k : Nat} (hk : k < 5) (x : Int32) : UPD g M (up2 M k (8) x) (wB k + 5) (.inr (2, [rf g (wB k + 6), .int x])) := UPD_W hk rfl (by rw [tm_Heap hk]; simp only [eHeap]; rw [up2_eq])
theorem upd_Lot_kind {g : GD} {M : MM} {k q : Nat} (hk : k < 5) (hq : q < 12) (x : Int32) : UPD g M (up2 M k (11 + 3 * q) x) (wB k + (7 + 2 * q)) (.inr (5, [rf g (wB k + (8 + 2 * q)), .int x])) := UPD_W hk (by rw [(owL0 hq).2.2]) (by rw [tm_Lot hk hq]; simp only [eLot]; rw [up2_eq])
theorem upd_Bell_profile {g : GD} {M : MM} {k j : Nat} (hk : k < 5) (hj : j < 100) (x : Int32) : UPD g M (up2 M k (56 + 8 * j) x) (wB k + (36 + 2 * j)) (.inr (0, [rf g (wB k + (37 + 2 * j)), .int x, .int (M k (57 + 8 * j)), .int (M k (58 + 8 * j)), .int (M k (59 + 8 * j)), .int (M k (60 + 8 * j)), .int (M k (61 + 8 * j))])) := UPD_W hk (by rw [show 56 + 8 * j = 54 + 8 * j + 2 by omega, owB hj (by decide)]; rfl) (by rw [tm_Bell hk hj]; simp only [eBell]; rw [up2_eq, up2_in (k) (i' := 57 + 8 * j) (by omega), up2_in (k) (i' := 58 + 8 * j) (by omega), up2_in (k) (i' := 59 + 8 * j) (by omega), up2_in (k) (i' := 60 + 8 * j) (by omega), up2_in (k) (i' := 61 + 8 * j) (by omega)])
theorem upd_Bell_pitch {g : GD} {M : MM} {k j : Nat} (hk : k < 5) (hj : j < 100) (x : Int32) : UPD g M (up2 M k (57 + 8 * j) x) (wB k + (36 + 2 * j)) (.inr (0, [rf g (wB k + (37 + 2 * j)), .int (M k (56 + 8 * j)), .int x, .int (M k (58 + 8 * j)), .int (M k (59 + 8 * j)), .int (M k (60 + 8 * j)), .int (M k (61 + 8 * j))])) := UPD_W hk (by rw [show 57 + 8 * j = 54 + 8 * j + 3 by omega, owB hj (by decide)]; rfl) (by rw [tm_Bell hk hj]; simp only [eBell]; rw [up2_eq, up2_in (k) (i' := 56 + 8 * j) (by omega), up2_in (k) (i' := 58 + 8 * j) (by omega), up2_in (k) (i' := 59 + 8 * j) (by omega), up2_in (k) (i' := 60 + 8 * j) (by omega), up2_in (k) (i' := 61 + 8 * j) (by omega)])
theorem upd_Bell_weightPoured {g : GD} {M : MM} {k j : Nat} (hk : k < 5) (hj : j < 100) (x : Int32) : UPD g M (up2 M k (58 + 8 * j) x) (wB k + (36 + 2 * j)) (.inr (0, [rf g (wB k + (37 + 2 * j)), .int (M k (56 + 8 * j)), .int (M k (57 + 8 * j)), .int x, .int (M k (59 + 8 * j)), .int (M k (60 + 8 * j)), .int (M k (61 + 8 * j))])) := UPD_W hk (by rw [show 58 + 8 * j = 54 + 8 * j + 4 by omega, owB hj (by decide)]; rfl) (by rw [tm_Bell hk hj]; simp only [eBell]; rw [up2_eq, up2_in (k) (i' := 56 + 8 * j) (by omega), up2_in (k) (i' := 57 + 8 * j) (by omega), up2_in (k) (i' := 59 + 8 * j) (by omega), up2_in (k) (i' := 60 + 8 * j) (by omega), up2_in (k) (i' := 61 + 8 * j) (by omega)])
theorem upd_Bell_drawn {g : GD} {M : MM} {k j : Nat} (hk : k < 5) (hj : j < 100) (x : Int32) : UPD g M (up2 M k (59 + 8 * j) x) (wB k + (36 + 2 * j)) (.inr (0, [rf g (wB k + (37 + 2 * j)), .int (M k (56 + 8 * j)), .int (M k (57 + 8 * j)), .int (M k (58 + 8 * j)), .int x, .int (M k (60 + 8 * j)), .int (M k (61 + 8 * j))])) := UPD_W hk (by rw [show 59 + 8 * j = 54 + 8 * j + 5 by omega, owB hj (by decide)]; rfl) (by rw [tm_Bell hk hj]; simp only [eBell]; rw [up2_eq, up2_in (k) (i' := 56 + 8 * j) (by omega), up2_in (k) (i' := 57 + 8 * j) (by omega), up2_in (k) (i' := 58 + 8 * j) (by omega), up2_in (k) (i' := 60 + 8 * j) (by omega), up2_in (k) (i' := 61 + 8 * j) (by omega)])
theorem upd_Bell_state {g : GD} {M : MM} {k j : Nat} (hk : k < 5) (hj : j < 100) (x : Int32) : UPD g M (up2 M k (60 + 8 * j) x) (wB k + (36 + 2 * j)) (.inr (0, [rf g (wB k + (37 + 2 * j)), .int (M k (56 + 8 * j)), .int (M k (57 + 8 * j)), .int (M k (58 + 8 * j)), .int (M k (59 + 8 * j)), .int x, .int (M k (61 + 8 * j))])) := UPD_W hk (by rw [show 60 + 8 * j = 54 + 8 * j + 6 by omega, owB hj (by decide)]; rfl) (by rw [tm_Bell hk hj]; simp only [eBell]; rw [up2_eq, up2_in (k) (i' := 56 + 8 * j) (by omega), up2_in (k) (i' := 57 + 8 * j) (by omega), up2_in (k) (i' := 58 + 8 * j) (by omega), up2_in (k) (i' := 59 + 8 * j) (by omega), up2_in (k) (i' := 61 + 8 * j) (by omega)])
theorem upd_Bell_order {g : GD} {M : MM} {k j : Nat} (hk : k < 5) (hj : j < 100) (x : Int32) : UPD g M (up2 M k (61 + 8 * j) x) (wB k + (36 + 2 * j)) (.inr (0, [rf g (wB k + (37 + 2 * j)), .int (M k (56 + 8 * j)), .int (M k (57 + 8 * j)), .int (M k (58 + 8 * j)), .int (M k (59 + 8 * j)), .int (M k (60 + 8 * j)), .int x])) := UPD_W hk (by rw [show 61 + 8 * j = 54 + 8 * j + 7 by omega, owB hj (by decide)]; rfl) (by rw [tm_Bell hk hj]; simp only [eBell]; rw [up2_eq, up2_in (k) (i' := 56 + 8 * j) (by omega), up2_in (k) (i' := 57 + 8 * j) (by omega), up2_in (k) (i' := 58 + 8 * j) (by omega), up2_in (k) (i' := 59 + 8 * j) (by omega), up2_in (k) (i' := 60 + 8 * j) (by omega)])
theorem upd_Order_profile {g : GD} {M : MM} {k j : Nat} (hk : k < 5) (hj : j < 100) (x : Int32) : UPD g M (up2 M k (854 + 4 * j) x) (wB k + (236 + j)) (.inr (7, [.int x, .int (M k (855 + 4 * j)), .int (M k (856 + 4 * j)), .int (M k (857 + 4 * j))])) := UPD_W hk (by rw [show 854 + 4 * j = 854 + 4 * j + 0 by omega, owO hj (by decide)]) (by rw [tm_Order hk hj]; simp only [eOrder]; rw [up2_eq, up2_in (k) (i' := 855 + 4 * j) (by omega), up2_in (k) (i' := 856 + 4 * j) (by omega), up2_in (k) (i' := 857 + 4 * j) (by omega)])
theorem upd_Order_pitch {g : GD} {M : MM} {k j : Nat} (hk : k < 5) (hj : j < 100) (x : Int32) : UPD g M (up2 M k (855 + 4 * j) x) (wB k + (236 + j)) (.inr (7, [.int (M k (854 + 4 * j)), .int x, .int (M k (856 + 4 * j)), .int (M k (857 + 4 * j))])) := UPD_W hk (by rw [show 855 + 4 * j = 854 + 4 * j + 1 by omega, owO hj (by decide)]) (by rw [tm_Order hk hj]; simp only [eOrder]; rw [up2_eq, up2_in (k) (i' := 854 + 4 * j) (by omega), up2_in (k) (i' := 856 + 4 * j) (by omega), up2_in (k) (i' := 857 + 4 * j) (by omega)])
theorem upd_Order_tolerance {g : GD} {M : MM} {k j : Nat} (hk : k < 5) (hj : j < 100) (x : Int32) : UPD g M (up2 M k (856 + 4 * j) x) (wB k + (236 + j)) (.inr (7, [.int (M k (854 + 4 * j)), .int (M k (855 + 4 * j)), .int x, .int (M k (857 + 4 * j))])) := UPD_W hk (by rw [show 856 + 4 * j = 854 + 4 * j + 2 by omega, owO hj (by decide)]) (by rw [tm_Order hk hj]; simp only [eOrder]; rw [up2_eq, up2_in (k) (i' := 854 + 4 * j) (by omega), up2_in (k) (i' := 855 + 4 * j) (by omega), up2_in (k) (i' := 857 + 4 * j) (by omega)])
theorem upd_Order_state {g : GD} {M : MM} {k j : Nat} (hk : k < 5) (hj : j < 100) (x : Int32) : UPD g M (up2 M k (857 + 4 * j) x) (wB k + (236 + j)) (.inr (7, [.int (M k (854 + 4 * j)), .int (M k (855 + 4 * j)), .int (M k (856 + 4 * j)), .int x])) := UPD_W hk (by rw [show 857 + 4 * j = 854 + 4 * j + 3 by omega, owO hj (by decide)]) (by rw [tm_Order hk hj]; simp only [eOrder]; rw [up2_eq, up2_in (k) (i' := 854 + 4 * j) (by omega), up2_in (k) (i' := 855 + 4 * j) (by omega), up2_in (k) (i' := 856 + 4 * j) (by omega)])
theorem upd_BF_length {g : GD} {M : MM}  (x : Int32) : UPD g M (up2 M 5 (0) x) 0 (.inr (10, [rf g 1, rf g 337, rf g 1683, rf g 1686, rf g 1696, .int x])) := UPD_G (by decide) rfl (by rw [tm_BF]; simp only [eBF]; rw [up2_eq])
theorem upd_Hist_size {g : GD} {M : MM}  (x : Int32) : UPD g M (up2 M 6 (0) x) 337 (.inr (3, [rf g 338, .int x])) := UPD_G (by decide) rfl (by rw [tm_Hist]; simp only [eHist]; rw [up2_eq])
theorem upd_Pack_size {g : GD} {M : MM}  (x : Int32) : UPD g M (up2 M 7 (0) x) 1683 (.inr (8, [rf g 1684, rf g 1685, .int x])) := UPD_G (by decide) rfl (by rw [tm_Pack]; simp only [ePack]; rw [up2_eq])
theorem upd_Read_expected {g : GD} {M : MM}  (x : Int32) : UPD g M (up2 M 10 (0) x) 1686 (.inr (1, [.int x, .int (M 10 1), .int (M 10 2), rf g 1687, rf g 1688, rf g 1689, .int (M 10 6), rf g 1690, .int (M 10 8), .int (M 10 9), .int (M 10 10), .int (M 10 11)])) := UPD_G (by decide) rfl (by rw [tm_Read]; simp only [eRead]; rw [up2_eq, up2_in (10) (i' := 1) (by omega), up2_in (10) (i' := 2) (by omega), up2_in (10) (i' := 6) (by omega), up2_in (10) (i' := 8) (by omega), up2_in (10) (i' := 9) (by omega), up2_in (10) (i' := 10) (by omega), up2_in (10) (i' := 11) (by omega)])
theorem upd_Read_position {g : GD} {M : MM}  (x : Int32) : UPD g M (up2 M 10 (1) x) 1686 (.inr (1, [.int (M 10 0), .int x, .int (M 10 2), rf g 1687, rf g 1688, rf g 1689, .int (M 10 6), rf g 1690, .int (M 10 8), .int (M 10 9), .int (M 10 10), .int (M 10 11)])) := UPD_G (by decide) rfl (by rw [tm_Read]; simp only [eRead]; rw [up2_eq, up2_in (10) (i' := 0) (by omega), up2_in (10) (i' := 2) (by omega), up2_in (10) (i' := 6) (by omega), up2_in (10) (i' := 8) (by omega), up2_in (10) (i' := 9) (by omega), up2_in (10) (i' := 10) (by omega), up2_in (10) (i' := 11) (by omega)])
theorem upd_Read_reason {g : GD} {M : MM}  (x : Int32) : UPD g M (up2 M 10 (2) x) 1686 (.inr (1, [.int (M 10 0), .int (M 10 1), .int x, rf g 1687, rf g 1688, rf g 1689, .int (M 10 6), rf g 1690, .int (M 10 8), .int (M 10 9), .int (M 10 10), .int (M 10 11)])) := UPD_G (by decide) rfl (by rw [tm_Read]; simp only [eRead]; rw [up2_eq, up2_in (10) (i' := 0) (by omega), up2_in (10) (i' := 1) (by omega), up2_in (10) (i' := 6) (by omega), up2_in (10) (i' := 8) (by omega), up2_in (10) (i' := 9) (by omega), up2_in (10) (i' := 10) (by omega), up2_in (10) (i' := 11) (by omega)])
theorem upd_Read_open {g : GD} {M : MM}  (x : Int32) : UPD g M (up2 M 10 (6) x) 1686 (.inr (1, [.int (M 10 0), .int (M 10 1), .int (M 10 2), rf g 1687, rf g 1688, rf g 1689, .int x, rf g 1690, .int (M 10 8), .int (M 10 9), .int (M 10 10), .int (M 10 11)])) := UPD_G (by decide) rfl (by rw [tm_Read]; simp only [eRead]; rw [up2_eq, up2_in (10) (i' := 0) (by omega), up2_in (10) (i' := 1) (by omega), up2_in (10) (i' := 2) (by omega), up2_in (10) (i' := 8) (by omega), up2_in (10) (i' := 9) (by omega), up2_in (10) (i' := 10) (by omega), up2_in (10) (i' := 11) (by omega)])
theorem upd_Read_bells {g : GD} {M : MM}  (x : Int32) : UPD g M (up2 M 10 (8) x) 1686 (.inr (1, [.int (M 10 0), .int (M 10 1), .int (M 10 2), rf g 1687, rf g 1688, rf g 1689, .int (M 10 6), rf g 1690, .int x, .int (M 10 9), .int (M 10 10), .int (M 10 11)])) := UPD_G (by decide) rfl (by rw [tm_Read]; simp only [eRead]; rw [up2_eq, up2_in (10) (i' := 0) (by omega), up2_in (10) (i' := 1) (by omega), up2_in (10) (i' := 2) (by omega), up2_in (10) (i' := 6) (by omega), up2_in (10) (i' := 9) (by omega), up2_in (10) (i' := 10) (by omega), up2_in (10) (i' := 11) (by omega)])
theorem upd_Read_beams {g : GD} {M : MM}  (x : Int32) : UPD g M (up2 M 10 (9) x) 1686 (.inr (1, [.int (M 10 0), .int (M 10 1), .int (M 10 2), rf g 1687, rf g 1688, rf g 1689, .int (M 10 6), rf g 1690, .int (M 10 8), .int x, .int (M 10 10), .int (M 10 11)])) := UPD_G (by decide) rfl (by rw [tm_Read]; simp only [eRead]; rw [up2_eq, up2_in (10) (i' := 0) (by omega), up2_in (10) (i' := 1) (by omega), up2_in (10) (i' := 2) (by omega), up2_in (10) (i' := 6) (by omega), up2_in (10) (i' := 8) (by omega), up2_in (10) (i' := 10) (by omega), up2_in (10) (i' := 11) (by omega)])
theorem upd_Read_deepest {g : GD} {M : MM}  (x : Int32) : UPD g M (up2 M 10 (10) x) 1686 (.inr (1, [.int (M 10 0), .int (M 10 1), .int (M 10 2), rf g 1687, rf g 1688, rf g 1689, .int (M 10 6), rf g 1690, .int (M 10 8), .int (M 10 9), .int x, .int (M 10 11)])) := UPD_G (by decide) rfl (by rw [tm_Read]; simp only [eRead]; rw [up2_eq, up2_in (10) (i' := 0) (by omega), up2_in (10) (i' := 1) (by omega), up2_in (10) (i' := 2) (by omega), up2_in (10) (i' := 6) (by omega), up2_in (10) (i' := 8) (by omega), up2_in (10) (i' := 9) (by omega), up2_in (10) (i' := 11) (by omega)])
theorem upd_Read_greatestSlant {g : GD} {M : MM}  (x : Int32) : UPD g M (up2 M 10 (11) x) 1686 (.inr (1, [.int (M 10 0), .int (M 10 1), .int (M 10 2), rf g 1687, rf g 1688, rf g 1689, .int (M 10 6), rf g 1690, .int (M 10 8), .int (M 10 9), .int (M 10 10), .int x])) := UPD_G (by decide) rfl (by rw [tm_Read]; simp only [eRead]; rw [up2_eq, up2_in (10) (i' := 0) (by omega), up2_in (10) (i' := 1) (by omega), up2_in (10) (i' := 2) (by omega), up2_in (10) (i' := 6) (by omega), up2_in (10) (i' := 8) (by omega), up2_in (10) (i' := 9) (by omega), up2_in (10) (i' := 10) (by omega)])
section RNL
variable {p : Program} {l : Launch} {e : Env} {R : Room} {s : State} {m : MethodId} {args : Array Value} {below : List Frame} {meth : Method} {c : Code} {H : Heap} {locs : List Loc} {cells slots : Nat} {Q : State → Prop}
variable {cc : ByteArray} {pc : Nat} {ls : Array Slot} {rest : List Value} {g : GD} {M : MM} {nL : Nat} {own : String}
theorem rAldNn (C : CX p s m args c cc nL own g) {k : Fin 4} {i : Nat} (hdg : decode cc pc = .ok (.aload_n k, 1)) (hi : (k : Nat) = i) (hl : ls[i]? = some (.val .null))
    (kk : W p l e R s m args below meth c H locs cells slots Q (F0 m (pc + 1) ls (.null :: rest))) : W p l e R s m args below meth c H locs cells slots Q (F0 m pc ls rest) := by
  subst hi
  have hexec := C.1
  have hb := C.2.1
  intro T hT X
  obtain ⟨t, a, b⟩ := kk T hT X
  refine ⟨t, ?_, b⟩
  jvm_step X.here [X.here.top, hexec, hb, hdg, hl, Value.isRef]
  exact a
theorem rAldN (C : CX p s m args c cc nL own g) {i : Nat} (hdg : decode cc pc = .ok (.aload i, 2)) (hl : ls[i]? = some (.val .null))
    (kk : W p l e R s m args below meth c H locs cells slots Q (F0 m (pc + 2) ls (.null :: rest))) : W p l e R s m args below meth c H locs cells slots Q (F0 m pc ls rest) := by
  have hexec := C.1
  have hb := C.2.1
  intro T hT X
  obtain ⟨t, a, b⟩ := kk T hT X
  refine ⟨t, ?_, b⟩
  jvm_step X.here [X.here.top, hexec, hb, hdg, hl, Value.isRef]
  exact a
theorem rAstNn {nL2 : Nat} {lv lv' : List (Nat × Value)} (C : CX p s m args c cc nL own g) {k : Fin 4} {i : Nat} (hdg : decode cc pc = .ok (.astore_n k, 1)) (hi : (k : Nat) = i) (h : lv_has ls nL2 lv) (hn : i < nL2) (hl : (i, Value.null) :: lv.filter (fun q => !(q.1 == i) && !(q.1 + 1 == i && q.2.category == 2)) = lv')
    (kk : ∀ ls' : Array Slot, lv_has ls' nL2 lv' → W p l e R s m args below meth c H locs cells slots Q (F0 m (pc + 1) ls' rest)) : W p l e R s m args below meth c H locs cells slots Q (F0 m pc ls (.null :: rest)) := by
  subst hi
  have hexec := C.1
  have hb := C.2.1
  obtain ⟨ls', e', h'⟩ := lv_store1 (v := .null) h hn rfl
  intro T hT X
  obtain ⟨t, a, b⟩ := kk ls' (hl ▸ h') T hT X
  refine ⟨t, ?_, b⟩
  jvm_step X.here [X.here.top, ↓top_set X.here.top, hexec, hb, hdg, e', Value.isRef]
  exact a
theorem rAstN {nL2 : Nat} {lv lv' : List (Nat × Value)} (C : CX p s m args c cc nL own g) {i : Nat} (hdg : decode cc pc = .ok (.astore i, 2)) (h : lv_has ls nL2 lv) (hn : i < nL2) (hl : (i, Value.null) :: lv.filter (fun q => !(q.1 == i) && !(q.1 + 1 == i && q.2.category == 2)) = lv')
    (kk : ∀ ls' : Array Slot, lv_has ls' nL2 lv' → W p l e R s m args below meth c H locs cells slots Q (F0 m (pc + 2) ls' rest)) : W p l e R s m args below meth c H locs cells slots Q (F0 m pc ls (.null :: rest)) := by
  have hexec := C.1
  have hb := C.2.1
  obtain ⟨ls', e', h'⟩ := lv_store1 (v := .null) h hn rfl
  intro T hT X
  obtain ⟨t, a, b⟩ := kk ls' (hl ▸ h') T hT X
  refine ⟨t, ?_, b⟩
  jvm_step X.here [X.here.top, ↓top_set X.here.top, hexec, hb, hdg, e', Value.isRef]
  exact a
end RNL
