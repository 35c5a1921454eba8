/-! ROWS over the one world: reads, writes, calls, entry and end of a method. -/
/-- the places of a mixture: the cell o holds copper at (G, i), tin at (G, i + 1) -/
def MX (o G i : Nat) : Prop := ∃ k, k < 5 ∧ ((o = wB k + 1 ∧ G = k ∧ i = 2) ∨ (o = wB k + 2 ∧ G = k ∧ i = 0) ∨ (o = wB k + 3 ∧ G = k ∧ i = 4) ∨ (o = wB k + 4 ∧ G = k ∧ i = 6) ∨ (o = wB k + 34 ∧ G = 60 + k ∧ i = 0) ∨ (o = wB k + 35 ∧ G = 65 + k ∧ i = 0) ∨ (∃ q, q < 12 ∧ o = wB k + (8 + 2 * q) ∧ G = k ∧ i = 9 + 3 * q) ∨ (∃ j, j < 100 ∧ o = wB k + (37 + 2 * j) ∧ G = k ∧ i = 54 + 8 * j))
theorem MX_bought {k : Nat} (h : k < 5) : MX (wB k + 1) k 2 := ⟨k, h, Or.inl ⟨rfl, rfl, rfl⟩⟩
theorem MX_stock {k : Nat} (h : k < 5) : MX (wB k + 2) k 0 := ⟨k, h, Or.inr (Or.inl ⟨rfl, rfl, rfl⟩)⟩
theorem MX_slag {k : Nat} (h : k < 5) : MX (wB k + 3) k 4 := ⟨k, h, Or.inr (Or.inr (Or.inl ⟨rfl, rfl, rfl⟩))⟩
theorem MX_melt {k : Nat} (h : k < 5) : MX (wB k + 4) k 6 := ⟨k, h, Or.inr (Or.inr (Or.inr (Or.inl ⟨rfl, rfl, rfl⟩)))⟩
theorem MX_ladle {k : Nat} (h : k < 5) : MX (wB k + 34) (60 + k) 0 := ⟨k, h, Or.inr (Or.inr (Or.inr (Or.inr (Or.inl ⟨rfl, rfl, rfl⟩))))⟩
theorem MX_burnt {k : Nat} (h : k < 5) : MX (wB k + 35) (65 + k) 0 := ⟨k, h, Or.inr (Or.inr (Or.inr (Or.inr (Or.inr (Or.inl ⟨rfl, rfl, rfl⟩)))))⟩
theorem MX_lot {k q : Nat} (h : k < 5) (hq : q < 12) : MX (wB k + (8 + 2 * q)) k (9 + 3 * q) := ⟨k, h, Or.inr (Or.inr (Or.inr (Or.inr (Or.inr (Or.inr (Or.inl ⟨q, hq, rfl, rfl, rfl⟩))))))⟩
theorem MX_bell {k j : Nat} (h : k < 5) (hj : j < 100) : MX (wB k + (37 + 2 * j)) k (54 + 8 * j) := ⟨k, h, Or.inr (Or.inr (Or.inr (Or.inr (Or.inr (Or.inr (Or.inr ⟨j, hj, rfl, rfl, rfl⟩))))))⟩
theorem MX.lt {o G i : Nat} (h : MX o G i) : o < 1697 := by
  obtain ⟨k, hk, h⟩ := h
  rcases h with ⟨rfl, -⟩ | ⟨rfl, -⟩ | ⟨rfl, -⟩ | ⟨rfl, -⟩ | ⟨rfl, -⟩ | ⟨rfl, -⟩ | ⟨q, hq, rfl, -⟩ | ⟨j, hj, rfl, -⟩ <;> exact wB_lt hk (by omega)
theorem MX.cel {g : GD} {M : MM} {o G i : Nat} (h : MX o G i) : tm g M o = mxE (M G i) (M G (i + 1)) := by
  obtain ⟨k, hk, h⟩ := h
  rcases h with ⟨rfl, rfl, rfl⟩ | ⟨rfl, rfl, rfl⟩ | ⟨rfl, rfl, rfl⟩ | ⟨rfl, rfl, rfl⟩ | ⟨rfl, rfl, rfl⟩ | ⟨rfl, rfl, rfl⟩ | ⟨q, hq, rfl, rfl, rfl⟩ | ⟨j, hj, rfl, rfl, rfl⟩
  · exact tm_bought hk
  · exact tm_stock hk
  · exact tm_slag hk
  · exact tm_melt hk
  · exact tm_ladle hk
  · exact tm_burnt hk
  · rw [tm_lotMix hk hq, show 9 + 3 * q + 1 = 10 + 3 * q by omega]
  · rw [tm_bellMix hk hj, show 54 + 8 * j + 1 = 55 + 8 * j by omega]
theorem ob60 {k : Nat} (hk : k < 5) : ob (60 + k) = wB k + 34 := by
  unfold ob; rw [if_neg (by omega), if_neg (by omega), if_neg (by omega), if_neg (by omega), if_neg (by omega), if_neg (by omega), if_neg (by omega), if_neg (by omega), if_neg (by omega), if_neg (by omega), if_neg (by omega), if_neg (by omega), if_neg (by omega), if_neg (by omega), if_neg (by omega), if_neg (by omega), if_neg (by omega), if_neg (by omega), if_pos (by omega), show 60 + k - 60 = k by omega]
theorem ob65 {k : Nat} (hk : k < 5) : ob (65 + k) = wB k + 35 := by
  unfold ob; rw [if_neg (by omega), if_neg (by omega), if_neg (by omega), if_neg (by omega), if_neg (by omega), if_neg (by omega), if_neg (by omega), if_neg (by omega), if_neg (by omega), if_neg (by omega), if_neg (by omega), if_neg (by omega), if_neg (by omega), if_neg (by omega), if_neg (by omega), if_neg (by omega), if_neg (by omega), if_neg (by omega), if_neg (by omega), if_pos (by omega), show 65 + k - 65 = k by omega]
theorem ob40 {k : Nat} (hk : k < 5) : ob (40 + k) = wB k + 31 := by
  unfold ob; rw [if_neg (by omega), if_neg (by omega), if_neg (by omega), if_neg (by omega), if_neg (by omega), if_neg (by omega), if_neg (by omega), if_neg (by omega), if_neg (by omega), if_neg (by omega), if_neg (by omega), if_neg (by omega), if_neg (by omega), if_neg (by omega), if_pos (by omega), show 40 + k - 40 = k by omega]
theorem ob50 {k : Nat} (hk : k < 5) : ob (50 + k) = wB k + 6 := by
  unfold ob; rw [if_neg (by omega), if_neg (by omega), if_neg (by omega), if_neg (by omega), if_neg (by omega), if_neg (by omega), if_neg (by omega), if_neg (by omega), if_neg (by omega), if_neg (by omega), if_neg (by omega), if_neg (by omega), if_neg (by omega), if_neg (by omega), if_neg (by omega), if_neg (by omega), if_pos (by omega), show 50 + k - 50 = k by omega]
theorem ob70 {q : Nat} (hq : q < 5) : ob (70 + q) = 1691 + q := by
  unfold ob; rw [if_neg (by omega), if_neg (by omega), if_neg (by omega), if_neg (by omega), if_neg (by omega), if_neg (by omega), if_neg (by omega), if_neg (by omega), if_neg (by omega), if_neg (by omega), if_neg (by omega), if_neg (by omega), if_neg (by omega), if_neg (by omega), if_neg (by omega), if_neg (by omega), if_neg (by omega), if_neg (by omega), if_neg (by omega), if_neg (by omega), if_pos (by omega)]; omega
theorem owL0 {q : Nat} (hq : q < 12) : owW (9 + 3 * q) = 8 + 2 * q ∧ owW (10 + 3 * q) = 8 + 2 * q ∧ owW (11 + 3 * q) = 7 + 2 * q := by
  refine ⟨?_, ?_, ?_⟩ <;> unfold owW <;> rw [if_neg (by omega), if_neg (by omega), if_neg (by omega), if_neg (by omega), if_neg (by omega), if_pos (by omega)]
  · rw [if_neg (by omega)]; omega
  · rw [if_neg (by omega)]; omega
  · rw [if_pos (by omega)]; omega
theorem owB {j f : Nat} (hj : j < 100) (hf : f < 8) : owW (54 + 8 * j + f) = if f < 2 then 37 + 2 * j else 36 + 2 * j := by
  unfold owW; rw [if_neg (by omega), if_neg (by omega), if_neg (by omega), if_neg (by omega), if_neg (by omega), if_neg (by omega), if_neg (by omega), if_neg (by omega), if_pos (by omega)]
  by_cases h : f < 2
  · rw [if_pos (by omega), if_pos h]; omega
  · rw [if_neg (by omega), if_neg h]; omega
theorem owO {j f : Nat} (hj : j < 100) (hf : f < 4) : owW (854 + 4 * j + f) = 236 + j := by
  unfold owW; rw [if_neg (by omega), if_neg (by omega), if_neg (by omega), if_neg (by omega), if_neg (by omega), if_neg (by omega), if_neg (by omega), if_neg (by omega), if_neg (by omega), if_pos (by omega)]; omega
/-- from M to M' only the cell o changes, to e -/
def UPD (g : GD) (M M' : MM) (o : Nat) (e : va_E) : Prop := tm g M' o = e ∧ ∀ q, q < 1697 → q ≠ o → tm g M' q = tm g M q
theorem UPD_W {g : GD} {M : MM} {k i o : Nat} {x : Int32} {e : va_E} (hk : k < 5) (ho : o = wB k + owW i) (he : tm g (up2 M k i x) o = e) : UPD g M (up2 M k i x) o e := ⟨he, fun q hq hn => tm_upW hk hq (by rw [← ho]; exact hn)⟩
theorem UPD_G {g : GD} {M : MM} {G i o : Nat} {x : Int32} {e : va_E} (hG : 5 ≤ G) (ho : o = ob G) (he : tm g (up2 M G i x) o = e) : UPD g M (up2 M G i x) o e := ⟨he, fun q hq hn => tm_upG hG hq (by rw [← ho]; exact hn)⟩
theorem MX.up0 {g : GD} {M : MM} {o G i : Nat} (h : MX o G i) (x : Int32) : UPD g M (up2 M G i x) o (mxE x (M G (i + 1))) := by
  have e : tm g (up2 M G i x) o = mxE x (M G (i + 1)) := by rw [h.cel, up2_eq, up2_in G (by omega)]
  obtain ⟨k, hk, h⟩ := h
  rcases h with ⟨rfl, rfl, rfl⟩ | ⟨rfl, rfl, rfl⟩ | ⟨rfl, rfl, rfl⟩ | ⟨rfl, rfl, rfl⟩ | ⟨rfl, rfl, rfl⟩ | ⟨rfl, rfl, rfl⟩ | ⟨q, hq, rfl, rfl, rfl⟩ | ⟨j, hj, rfl, rfl, rfl⟩
  · exact UPD_W hk rfl e
  · exact UPD_W hk rfl e
  · exact UPD_W hk rfl e
  · exact UPD_W hk rfl e
  · exact UPD_G (by omega) (ob60 hk).symm e
  · exact UPD_G (by omega) (ob65 hk).symm e
  · exact UPD_W hk (by rw [(owL0 hq).1]) e
  · exact UPD_W hk (by rw [show 54 + 8 * j = 54 + 8 * j + 0 from rfl, owB hj (by omega)]; rfl) e
theorem MX.up1 {g : GD} {M : MM} {o G i : Nat} (h : MX o G i) (x : Int32) : UPD g M (up2 M G (i + 1) x) o (mxE (M G i) x) := by
  have e : tm g (up2 M G (i + 1) x) o = mxE (M G i) x := by rw [h.cel, up2_eq, up2_in G (by omega)]
  obtain ⟨k, hk, h⟩ := h
  rcases h with ⟨rfl, rfl, rfl⟩ | ⟨rfl, rfl, rfl⟩ | ⟨rfl, rfl, rfl⟩ | ⟨rfl, rfl, rfl⟩ | ⟨rfl, rfl, rfl⟩ | ⟨rfl, rfl, rfl⟩ | ⟨q, hq, rfl, rfl, rfl⟩ | ⟨j, hj, rfl, rfl, rfl⟩
  · exact UPD_W hk rfl e
  · exact UPD_W hk rfl e
  · exact UPD_W hk rfl e
  · exact UPD_W hk rfl e
  · exact UPD_G (by omega) (ob60 hk).symm e
  · exact UPD_G (by omega) (ob65 hk).symm e
  · exact UPD_W hk (by rw [show 9 + 3 * q + 1 = 10 + 3 * q by omega, (owL0 hq).2.1]) e
  · exact UPD_W hk (by rw [owB hj (by omega)]; rfl) e
-- statics, nest words, the state's facts
def sFirst : Nat → Int32 := fun i => match i with
  | 0 => 5 | 1 => 20 | 2 => 180 | 3 => 260 | 4 => 50 | 5 => 6 | _ => 2000
def sFrom : Nat → Int32 := fun i => match i with
  | 0 => 0 | 1 => 0 | 2 => 0 | 3 => 0 | 4 => 0 | 5 => 1 | _ => 1
def sTo : Nat → Int32 := fun i => match i with
  | 0 => 50 | 1 => 100 | 2 => 1000 | 3 => 1000 | 4 => 300 | 5 => 50 | _ => 20000
def sFac : Nat → Int32 := fun i => match i with
  | 0 => 900 | 1 => 1200 | 2 => 1500 | _ => 1100
def ST1 (g : GD) (U : State) (H : Heap) (nm : String) (j N : Nat) (f : Nat → Int32) : Prop := va_Z "BellFoundry" nm "[I" (.ref (g.2.2.2 j)) (AU g) U H ∧ va_T .int (g.2.2.2 j) N (fun i => .int (f i)) (AU g) U H
def ST (g : GD) (U : State) (H : Heap) : Prop := ST1 g U H "SETTING_FIRST" 0 7 sFirst ∧ ST1 g U H "SETTING_FROM" 1 7 sFrom ∧ ST1 g U H "SETTING_TO" 2 7 sTo ∧ ST1 g U H "FACTORS" 3 4 sFac
theorem ST1.kept {g : GD} {U : State} {H H1 : Heap} {nm : String} {j N : Nat} {f : Nat → Int32} (h : ST1 g U H nm j N f) (hq : ∀ a : Nat, a < H.size → ¬ AU g a → H1[a]? = H[a]?) : ST1 g U H1 nm j N f := ⟨h.1.kept hq, h.2.kept hq⟩
theorem ST1.moved {g : GD} {u U : State} {H : Heap} {nm : String} {j N : Nat} {f : Nat → Int32} (hvm : u.vm.Alike U.vm) (h : ST1 g u H nm j N f) : ST1 g U H nm j N f := ⟨va_Z.moved hvm h.1, va_T.moved hvm h.2⟩
theorem ST.kept {g : GD} {U : State} {H H1 : Heap} (h : ST g U H) (hq : ∀ a : Nat, a < H.size → ¬ AU g a → H1[a]? = H[a]?) : ST g U H1 := ⟨h.1.kept hq, h.2.1.kept hq, h.2.2.1.kept hq, h.2.2.2.kept hq⟩
theorem ST.moved {g : GD} {u U : State} {H : Heap} (hvm : u.vm.Alike U.vm) (h : ST g u H) : ST g U H := ⟨h.1.moved hvm, h.2.1.moved hvm, h.2.2.1.moved hvm, h.2.2.2.moved hvm⟩
def NLf : List (String × Nat × String × String × String) := [("BellFoundry$Heap", 32, "BellFoundry$Lot", "metal", "LBellFoundry$Mixture;"), ("BellFoundry", 93, "BellFoundry$Lot", "metal", "LBellFoundry$Mixture;"), ("BellFoundry$Works", 101, "BellFoundry$Lot", "metal", "LBellFoundry$Mixture;"), ("BellFoundry$Heap", 39, "BellFoundry$Lot", "kind", "I"), ("BellFoundry$Works", 96, "BellFoundry$Lot", "kind", "I"), ("BellFoundry", 106, "BellFoundry$Lot", "kind", "I"), ("BellFoundry", 248, "BellFoundry$Heap", "size", "I"), ("BellFoundry$Works", 34, "BellFoundry", "SETTING_FIRST", "[I"), ("BellFoundry$FrameReader", 102, "BellFoundry$Bell", "metal", "LBellFoundry$Mixture;"), ("BellFoundry", 157, "BellFoundry$Bell", "metal", "LBellFoundry$Mixture;"), ("BellFoundry$Works", 125, "BellFoundry$Bell", "metal", "LBellFoundry$Mixture;"), ("BellFoundry$Order", 33, "BellFoundry$Bell", "profile", "I"), ("BellFoundry$Works", 137, "BellFoundry$Bell", "profile", "I"), ("BellFoundry", 173, "BellFoundry$Bell", "profile", "I"), ("BellFoundry$Order", 34, "BellFoundry$Bell", "pitch", "I"), ("BellFoundry", 162, "BellFoundry$Bell", "pitch", "I"), ("BellFoundry$Works", 147, "BellFoundry$Bell", "pitch", "I"), ("BellFoundry$Works", 150, "BellFoundry$Bell", "weightPoured", "I"), ("BellFoundry", 176, "BellFoundry$Bell", "weightPoured", "I"), ("BellFoundry$Works", 153, "BellFoundry$Bell", "drawn", "I"), ("BellFoundry", 179, "BellFoundry$Bell", "drawn", "I"), ("BellFoundry$Order", 30, "BellFoundry$Bell", "state", "I"), ("BellFoundry", 152, "BellFoundry$Bell", "state", "I"), ("BellFoundry$Works", 156, "BellFoundry$Bell", "state", "I"), ("BellFoundry$Works", 159, "BellFoundry$Bell", "order", "I"), ("BellFoundry", 182, "BellFoundry$Bell", "order", "I"), ("BellFoundry$Works", 172, "BellFoundry$Order", "profile", "I"), ("BellFoundry", 206, "BellFoundry$Order", "profile", "I"), ("BellFoundry$Works", 173, "BellFoundry$Order", "pitch", "I"), ("BellFoundry", 207, "BellFoundry$Order", "pitch", "I"), ("BellFoundry$Works", 174, "BellFoundry$Order", "tolerance", "I"), ("BellFoundry", 208, "BellFoundry$Order", "tolerance", "I"), ("BellFoundry", 199, "BellFoundry$Order", "state", "I"), ("BellFoundry$Works", 177, "BellFoundry$Order", "state", "I"), ("BellFoundry", 69, "BellFoundry$Works", "bought", "LBellFoundry$Mixture;"), ("BellFoundry", 54, "BellFoundry$Works", "stock", "LBellFoundry$Mixture;"), ("BellFoundry", 245, "BellFoundry$Works", "slag", "LBellFoundry$Mixture;"), ("BellFoundry", 76, "BellFoundry$Works", "melt", "LBellFoundry$Mixture;"), ("BellFoundry", 83, "BellFoundry$Works", "heap", "LBellFoundry$Heap;"), ("BellFoundry", 129, "BellFoundry$Works", "settings", "[I"), ("BellFoundry", 228, "BellFoundry$Works", "bells", "[LBellFoundry$Bell;"), ("BellFoundry", 141, "BellFoundry$Works", "poured", "I"), ("BellFoundry", 188, "BellFoundry$Works", "came", "I"), ("BellFoundry", 254, "BellFoundry$History", "size", "I"), ("BellFoundry$FrameReader", 128, "BellFoundry$Load", "weight", "I"), ("BellFoundry$FrameReader", 137, "BellFoundry$Load", "leastLevel", "I"), ("BellFoundry", 265, "BellFoundry$FrameReader", "position", "I"), ("BellFoundry", 262, "BellFoundry$FrameReader", "reason", "I")]
def NLm : List (String × Nat × MethodName) := [("BellFoundry$Works", 11, ⟨"BellFoundry$Mixture", "<init>", "()V"⟩), ("BellFoundry$Heap", 21, ⟨"BellFoundry$Lot", "<init>", "()V"⟩), ("BellFoundry$Lot", 11, ⟨"BellFoundry$Mixture", "<init>", "()V"⟩), ("BellFoundry$Works", 71, ⟨"BellFoundry$Bell", "<init>", "()V"⟩), ("BellFoundry$Bell", 11, ⟨"BellFoundry$Mixture", "<init>", "()V"⟩), ("BellFoundry$Works", 72, ⟨"BellFoundry$Order", "<init>", "()V"⟩), ("BellFoundry", 25, ⟨"BellFoundry$WagonPacker", "<init>", "()V"⟩), ("BellFoundry$FrameReader", 23, ⟨"BellFoundry$Load", "<init>", "()V"⟩), ("BellFoundry$Heap", 22, ⟨"BellFoundry", "isIn", "(III)Z"⟩), ("BellFoundry$Works", 92, ⟨"BellFoundry", "isIn", "(III)Z"⟩), ("BellFoundry$Mixture", 33, ⟨"BellFoundry", "shareRoundedUp", "(II)I"⟩), ("BellFoundry$Works", 118, ⟨"BellFoundry", "shareRoundedUp", "(II)I"⟩), ("BellFoundry$Works", 140, ⟨"BellFoundry", "rootOf", "(I)I"⟩), ("BellFoundry$Works", 143, ⟨"BellFoundry", "firstPitch", "(III)I"⟩), ("BellFoundry$Works", 203, ⟨"BellFoundry", "heaviestAtPitch", "(II)I"⟩), ("BellFoundry$Works", 206, ⟨"BellFoundry", "cube", "(J)J"⟩)]
def NX (U : State) : Prop := (∀ q ∈ NLf, va_Nw (.fieldLinkNest q.1 q.2.1 q.2.2.1 q.2.2.2.1 q.2.2.2.2 "BellFoundry") U) ∧ ∀ q ∈ NLm, va_Nw (.methodLinkNest q.1 q.2.1 q.2.2 "BellFoundry") U
theorem NX.warm {s U : State} (hW : s.WarmedH U.vm) (h : NX s) : NX U := ⟨fun q hq => va_Nw.warmF hW (h.1 q hq), fun q hq => va_Nw.warmM hW (h.2 q hq)⟩
theorem NX.same {u U : State} (e : u.vm = U.vm) (h : NX u) : NX U := ⟨fun q hq => va_Nw.same rfl e (h.1 q hq), fun q hq => va_Nw.same rfl e (h.2 q hq)⟩
def WDp (g : GD) (M : MM) (U : State) : Prop := Wd g M U.heap ∧ va_K g.1 vwCl (TY g.2.1) U ∧ ST g U U.heap ∧ NX U ∧ zz g ≤ U.heap.size
theorem WDp_blind {g : GD} {M : MM} {av : List Value} : FrameBlind (va_Pc av (WDp g M)) := fun a U fr mk q => ⟨q.1, q.2.1, va_K.moved (u := U) (U := U.calling fr mk a) (Vm.Alike.refl U.vm) q.2.2.1, ST.moved (u := U) (U := U.calling fr mk a) (Vm.Alike.refl U.vm) q.2.2.2.1, NX.same (u := U) (U := U.calling fr mk a) rfl q.2.2.2.2.1, q.2.2.2.2.2⟩
/-- what a method's walk stands on, all along -/
def CX (p : Program) (s : State) (m : MethodId) (args : Array Value) (c : Code) (cc : ByteArray) (nL : Nat) (own : String) (g : GD) : Prop :=
  p.tables.exec = Jvm.exec ∧ c.code = cc ∧ c.maxLocals = nL ∧ s.vm.findClass own = some m.cls ∧ (∀ w ∈ WW, w.before args s = true) ∧ va_K g.1 vwCl (TY g.2.1) s ∧ ST g s s.heap ∧ NX s ∧ zz g ≤ s.heap.size
def QQ (g : GD) (post : Value → MM → Prop) : Array Value → State → Outcome → State → Prop := fun _ st oc t => (∃ (v : Value) (M' : MM), oc = .returned (some v) ∧ post v M' ∧ Wd g M' t.heap) ∧ va_F (AA g) st t
def QV (g : GD) (post : MM → Prop) : Array Value → State → Outcome → State → Prop := fun _ st oc t => (∃ M' : MM, oc = .returned none ∧ post M' ∧ Wd g M' t.heap) ∧ va_F (AA g) st t
abbrev RM (f lc : Nat) : Room := { frames := f, cells := 0, slots := 0, locals := lc }
abbrev sS (g : GD) (s : State) (H : Heap) (locs : List Loc) : Prop := va_S (AA g) s.heap H locs
abbrev sU (g : GD) (s : State) (H : Heap) (locs : List Loc) : Prop := va_S (AU g) s.heap H locs
theorem sS_U {g : GD} {s : State} {H : Heap} {locs : List Loc} (h : sS g s H locs) : sU g s H locs := ⟨h.1, fun q h1 h2 => h.2.1 q h1 (fun q => h2 q.1), fun l hl => (h.2.2 l hl).1⟩
section RWS
variable {p : Program} {l : Launch} {e : Env} {R : Room} {s : State} {m : MethodId} {args : Array Value} {below : List Frame} {meth : Method} {c : Code} {H : Heap} {locs : List Loc} {cells slots : Nat} {Q : State → Prop}
variable {cc : ByteArray} {pc : Nat} {ls : Array Slot} {rest : List Value} {g : GD} {M : MM} {nL : Nat} {own : String}
theorem CX.pre {g : GD} {M : MM} (C : CX p s m args c cc nL own g) (hW : Wd g M H) (hS : sS g s H locs) {U : State} (hU : U.heap = H) (hw : s.WarmedH U.vm) : WDp g M U := by
  obtain ⟨-, -, -, -, -, hK, hT, hN, hz⟩ := C
  refine ⟨by rw [hU]; exact hW, va_K.moved hw.alike hK, ?_, hN.warm hw, by rw [hU]; exact Nat.le_trans hz hS.1⟩
  rw [hU]
  exact (hT.kept (sS_U hS).2.1).moved hw.alike
theorem CX.preU {g : GD} {M : MM} (C : CX p s m args c cc nL own g) (hW : Wd g M H) (hS : sU g s H locs) {U : State} (hU : U.heap = H) (hw : s.WarmedH U.vm) : WDp g M U := by
  obtain ⟨-, -, -, -, -, hK, hT, hN, hz⟩ := C
  refine ⟨by rw [hU]; exact hW, va_K.moved hw.alike hK, ?_, hN.warm hw, by rw [hU]; exact Nat.le_trans hz hS.1⟩
  rw [hU]
  exact (hT.kept hS.2.1).moved hw.alike
theorem rGet (C : CX p s m args c cc nL own g) (hW : Wd g M H) {o ci N k index : Nat} {T : u_T} {r : String} {fs : List Value} {v : Value} (ho : o < 1697) (he : tm g M o = .inr (ci, fs)) (hc : vwCl[ci]? = some (r, T, N)) (hin : ∀ w ∈ u_ws r T N, w ∈ WW) (hk : k < N) (hl : Cond.fieldLink own index (T k).1 (T k).2.1 (T k).2.2.1 ∈ WW) (hv : fs[k]? = some v) (hd : decode cc pc = .ok (.getfield index, 3))
    (kk : W p l e R s m args below meth c H locs cells slots Q (F0 m (pc + 3) ls (v :: rest))) : W p l e R s m args below meth c H locs cells slots Q (F0 m pc ls (rf g o :: rest)) :=
  va_get C.1 C.2.1 C.2.2.2.2.1 hin C.2.2.2.1 C.2.2.2.2.2.1 hW o (by rw [wlN_get ho, he]) hc k hk (C.2.2.2.2.1 _ hl) (fun _ h => h) hv hd kk
theorem rGetN (C : CX p s m args c cc nL own g) (hW : Wd g M H) {o ci N k index : Nat} {T : u_T} {r : String} {fs : List Value} {v : Value} (ho : o < 1697) (he : tm g M o = .inr (ci, fs)) (hc : vwCl[ci]? = some (r, T, N)) (hin : ∀ w ∈ u_ws r T N, w ∈ WW) (hk : k < N) (hl : (own, index, (T k).1, (T k).2.1, (T k).2.2.1) ∈ NLf) (hv : fs[k]? = some v) (hd : decode cc pc = .ok (.getfield index, 3))
    (kk : W p l e R s m args below meth c H locs cells slots Q (F0 m (pc + 3) ls (v :: rest))) : W p l e R s m args below meth c H locs cells slots Q (F0 m pc ls (rf g o :: rest)) :=
  va_getN (host := "BellFoundry") C.1 C.2.1 C.2.2.2.2.1 hin C.2.2.2.1 C.2.2.2.2.2.1 hW o (by rw [wlN_get ho, he]) hc k hk (va_Nw.use rfl (C.2.2.2.2.2.2.2.1.1 _ hl)) (fun _ h => h) hv hd kk
theorem rPut (C : CX p s m args c cc nL own g) (hW : Wd g M H) (hS : sS g s H locs) {o ci N k index : Nat} {T : u_T} {r : String} {fs : List Value} {x : Int32} {M' : MM} {ty0 : Nat → FieldType} (ho : o < 1697) (he : tm g M o = .inr (ci, fs)) (hc : vwCl[ci]? = some (r, T, N)) (hin : ∀ w ∈ u_ws r T N, w ∈ WW) (hty : ∀ k, k < N → parseFieldDescriptor (T k).2.2.1 = some (ty0 k)) (hnm : ∀ a, a < N → ∀ b, b < N → a ≠ b → (T a).2.1 ≠ (T b).2.1) (hk : k < N) (hl : Cond.fieldLink own index (T k).1 (T k).2.1 (T k).2.2.1 ∈ WW) (hf : (T k).2.2.2 = false) (h0 : parseFieldDescriptor (T k).2.2.1 = some .int) (hlen : k < fs.length) (hu : UPD g M M' o (.inr (ci, fs.set k (.int x)))) (hd : decode cc pc = .ok (.putfield index, 3))
    (kk : ∀ (H1 : Heap) (locs1 : List Loc), Wd g M' H1 → sS g s H1 locs1 → W p l e R s m args below meth c H1 locs1 cells slots Q (F0 m (pc + 3) ls rest)) : W p l e R s m args below meth c H locs cells slots Q (F0 m pc ls (.int x :: rf g o :: rest)) := by
  refine va_put C.1 C.2.1 C.2.2.2.2.1 hin ty0 hty hnm C.2.2.2.1 C.2.2.2.2.2.1 hW (wlN_DA _ _) hS o (by rw [wlN_get ho, he]) hc k hk (C.2.2.2.2.1 _ hl) (fun _ h => h) hf h0 rfl rfl hlen hd (fun H1 locs1 hP _ hS1 => kk H1 locs1 ?_ hS1)
  rw [wlN_set hu.1 hu.2] at hP
  exact hP
theorem rPutN (C : CX p s m args c cc nL own g) (hW : Wd g M H) (hS : sS g s H locs) {o ci N k index : Nat} {T : u_T} {r : String} {fs : List Value} {x : Int32} {M' : MM} {ty0 : Nat → FieldType} (ho : o < 1697) (he : tm g M o = .inr (ci, fs)) (hc : vwCl[ci]? = some (r, T, N)) (hin : ∀ w ∈ u_ws r T N, w ∈ WW) (hty : ∀ k, k < N → parseFieldDescriptor (T k).2.2.1 = some (ty0 k)) (hnm : ∀ a, a < N → ∀ b, b < N → a ≠ b → (T a).2.1 ≠ (T b).2.1) (hk : k < N) (hl : (own, index, (T k).1, (T k).2.1, (T k).2.2.1) ∈ NLf) (hf : (T k).2.2.2 = false) (h0 : parseFieldDescriptor (T k).2.2.1 = some .int) (hlen : k < fs.length) (hu : UPD g M M' o (.inr (ci, fs.set k (.int x)))) (hd : decode cc pc = .ok (.putfield index, 3))
    (kk : ∀ (H1 : Heap) (locs1 : List Loc), Wd g M' H1 → sS g s H1 locs1 → W p l e R s m args below meth c H1 locs1 cells slots Q (F0 m (pc + 3) ls rest)) : W p l e R s m args below meth c H locs cells slots Q (F0 m pc ls (.int x :: rf g o :: rest)) := by
  refine va_putN (host := "BellFoundry") C.1 C.2.1 C.2.2.2.2.1 hin ty0 hty hnm C.2.2.2.1 C.2.2.2.2.2.1 hW (wlN_DA _ _) hS o (by rw [wlN_get ho, he]) hc k hk (va_Nw.use rfl (C.2.2.2.2.2.2.2.1.1 _ hl)) (fun _ h => h) hf h0 rfl rfl hlen hd (fun H1 locs1 hP _ hS1 => kk H1 locs1 ?_ hS1)
  rw [wlN_set hu.1 hu.2] at hP
  exact hP
theorem rIld (C : CX p s m args c cc nL own g) (hW : Wd g M H) {o n : Nat} {f : Nat → Int32} {i : Int32} (ho : o < 1697) (he : tm g M o = aI g n f) (hi : vp_in i n) (hd : decode cc pc = .ok (.iaload, 1))
    (kk : W p l e R s m args below meth c H locs cells slots Q (F0 m (pc + 1) ls (.int (f i.toNatClampNeg) :: rest))) : W p l e R s m args below meth c H locs cells slots Q (F0 m pc ls (.int i :: rf g o :: rest)) :=
  va_iald C.1 C.2.1 C.2.2.2.2.2.1 hW o 0 (by rw [wlN_get ho, he]) rfl hi hd kk
theorem rIst (C : CX p s m args c cc nL own g) (hW : Wd g M H) (hS : sS g s H locs) {o n : Nat} {f : Nat → Int32} {i x : Int32} {M' : MM} (ho : o < 1697) (he : tm g M o = aI g n f) (hi : vp_in i n) (hu : UPD g M M' o (aI g n (upd f i.toNatClampNeg x))) (hd : decode cc pc = .ok (.iastore, 1))
    (kk : ∀ (H1 : Heap) (locs1 : List Loc), Wd g M' H1 → sS g s H1 locs1 → W p l e R s m args below meth c H1 locs1 cells slots Q (F0 m (pc + 1) ls rest)) : W p l e R s m args below meth c H locs cells slots Q (F0 m pc ls (.int x :: .int i :: rf g o :: rest)) := by
  refine va_iast C.1 C.2.1 C.2.2.2.2.2.1 hW (wlN_DA _ _) hS o 0 (by rw [wlN_get ho, he]) rfl hi hd (fun H1 locs1 hP _ hS1 => kk H1 locs1 ?_ hS1)
  rw [wlN_set hu.1 hu.2] at hP
  exact hP
theorem rZld (C : CX p s m args c cc nL own g) (hW : Wd g M H) {o n : Nat} {f : Nat → Int32} {i : Int32} (ho : o < 1697) (he : tm g M o = aZ g n f) (hi : vp_in i n) (hd : decode cc pc = .ok (.baload, 1))
    (kk : W p l e R s m args below meth c H locs cells slots Q (F0 m (pc + 1) ls (.int (f i.toNatClampNeg) :: rest))) : W p l e R s m args below meth c H locs cells slots Q (F0 m pc ls (.int i :: rf g o :: rest)) :=
  va_zald C.1 C.2.1 C.2.2.2.2.2.1 hW o 2 (by rw [wlN_get ho, he]) rfl hi hd kk
theorem rZst (C : CX p s m args c cc nL own g) (hW : Wd g M H) (hS : sS g s H locs) {o n : Nat} {f : Nat → Int32} {i x : Int32} {M' : MM} (ho : o < 1697) (he : tm g M o = aZ g n f) (hi : vp_in i n) (hu : UPD g M M' o (aZ g n (upd f i.toNatClampNeg (vp_nar .boolean x)))) (hd : decode cc pc = .ok (.bastore, 1))
    (kk : ∀ (H1 : Heap) (locs1 : List Loc), Wd g M' H1 → sS g s H1 locs1 → W p l e R s m args below meth c H1 locs1 cells slots Q (F0 m (pc + 1) ls rest)) : W p l e R s m args below meth c H locs cells slots Q (F0 m pc ls (.int x :: .int i :: rf g o :: rest)) := by
  refine va_zast C.1 C.2.1 C.2.2.2.2.2.1 hW (wlN_DA _ _) hS o 2 (by rw [wlN_get ho, he]) rfl hi hd (fun H1 locs1 hP _ hS1 => kk H1 locs1 ?_ hS1)
  rw [wlN_set hu.1 hu.2] at hP
  exact hP
theorem rCld (C : CX p s m args c cc nL own g) (hW : Wd g M H) {o n : Nat} {f : Nat → Int32} {i : Int32} (ho : o < 1697) (he : tm g M o = aC g n f) (hi : vp_in i n) (hd : decode cc pc = .ok (.caload, 1))
    (kk : W p l e R s m args below meth c H locs cells slots Q (F0 m (pc + 1) ls (.int (f i.toNatClampNeg) :: rest))) : W p l e R s m args below meth c H locs cells slots Q (F0 m pc ls (.int i :: rf g o :: rest)) :=
  va_cald C.1 C.2.1 C.2.2.2.2.2.1 hW o 1 (by rw [wlN_get ho, he]) rfl hi hd kk
theorem rCst (C : CX p s m args c cc nL own g) (hW : Wd g M H) (hS : sS g s H locs) {o n : Nat} {f : Nat → Int32} {i x : Int32} {M' : MM} (ho : o < 1697) (he : tm g M o = aC g n f) (hi : vp_in i n) (hu : UPD g M M' o (aC g n (upd f i.toNatClampNeg (vp_nar .char x)))) (hd : decode cc pc = .ok (.castore, 1))
    (kk : ∀ (H1 : Heap) (locs1 : List Loc), Wd g M' H1 → sS g s H1 locs1 → W p l e R s m args below meth c H1 locs1 cells slots Q (F0 m (pc + 1) ls rest)) : W p l e R s m args below meth c H locs cells slots Q (F0 m pc ls (.int x :: .int i :: rf g o :: rest)) := by
  refine va_cast C.1 C.2.1 C.2.2.2.2.2.1 hW (wlN_DA _ _) hS o 1 (by rw [wlN_get ho, he]) rfl hi hd (fun H1 locs1 hP _ hS1 => kk H1 locs1 ?_ hS1)
  rw [wlN_set hu.1 hu.2] at hP
  exact hP
theorem rRld (C : CX p s m args c cc nL own g) (hW : Wd g M H) {o n j : Nat} {f : Nat → Nat} {i : Int32} {nm : String} (ho : o < 1697) (he : tm g M o = aR g j n f) (ht : (TY g.2.1)[j]? = some (g.2.1 j, .object nm)) (hi : vp_in i n) (hd : decode cc pc = .ok (.aaload, 1))
    (kk : W p l e R s m args below meth c H locs cells slots Q (F0 m (pc + 1) ls (rf g (f i.toNatClampNeg) :: rest))) : W p l e R s m args below meth c H locs cells slots Q (F0 m pc ls (.int i :: rf g o :: rest)) :=
  va_aldq (f := fun i => some (zz g + f i)) C.1 C.2.1 C.2.2.2.2.2.1 hW o j (by rw [wlN_get ho, he]) ht hi hd kk
theorem rRst (C : CX p s m args c cc nL own g) (hW : Wd g M H) (hS : sS g s H locs) {o o2 n j ci : Nat} {f f' : Nat → Nat} {i : Int32} {r : vw_C} {vs : List Value} {M' : MM} (ho : o < 1697) (he : tm g M o = aR g j n f) (ht : (TY g.2.1)[j]? = some (g.2.1 j, .object r.1)) (ho2 : o2 < 1697) (hv : tm g M o2 = .inr (ci, vs)) (hc : vwCl[ci]? = some r) (hi : vp_in i n) (hf : ∀ q, f' q = if q = i.toNatClampNeg then o2 else f q) (hu : UPD g M M' o (aR g j n f')) (hd : decode cc pc = .ok (.aastore, 1))
    (kk : ∀ (H1 : Heap) (locs1 : List Loc), Wd g M' H1 → sS g s H1 locs1 → W p l e R s m args below meth c H1 locs1 cells slots Q (F0 m (pc + 1) ls rest)) : W p l e R s m args below meth c H locs cells slots Q (F0 m pc ls (rf g o2 :: .int i :: rf g o :: rest)) := by
  refine va_astq C.1 C.2.1 C.2.2.2.2.2.1 hW (wlN_DA _ _) hS o j o2 ci (by rw [wlN_get ho, he]) ht (by rw [wlN_get ho2, hv]) hc hi hd (fun H1 locs1 hP _ hS1 => kk H1 locs1 ?_ hS1)
  have e2 : (va_up (fun i => some (zz g + f i)) i.toNatClampNeg (some (zz g + o2)) : Nat → Option Nat) = fun i => some (zz g + f' i) := by
    funext q
    unfold va_up
    rw [hf q]
    by_cases h : q = i.toNatClampNeg
    · rw [if_pos h, if_pos h]
    · rw [if_neg h, if_neg h]
  rw [e2, wlN_set hu.1 hu.2] at hP
  exact hP
theorem rLenI (C : CX p s m args c cc nL own g) (hW : Wd g M H) {o n j : Nat} {x : (Nat → Int32) ⊕ (Nat → Int64) ⊕ (Nat → UInt32) ⊕ (Nat → UInt64) ⊕ (Nat → Option Nat)} {v : Int32} {ty : FieldType} (ho : o < 1697) (he : tm g M o = .inl (g.2.1 j, n, x)) (ht : (TY g.2.1)[j]? = some (g.2.1 j, ty)) (hv : Int32.ofNat n = v) (hd : decode cc pc = .ok (.arraylength, 1))
    (kk : W p l e R s m args below meth c H locs cells slots Q (F0 m (pc + 1) ls (.int v :: rest))) : W p l e R s m args below meth c H locs cells slots Q (F0 m pc ls (rf g o :: rest)) :=
  va_alen C.1 C.2.1 C.2.2.2.2.2.1 hW o j (by rw [wlN_get ho, he]) ht hv hd kk
/-- a static row: its address, a cell of it -/
theorem rGs (C : CX p s m args c cc nL own g) (hS : sS g s H locs) {index j N : Nat} {f : Nat → Int32} {nm : String} (h : ST1 g s s.heap nm j N f) (hl : Cond.fieldLink own index "BellFoundry" nm "[I" ∈ WW) (hd : decode cc pc = .ok (.getstatic index, 3))
    (kk : W p l e R s m args below meth c H locs cells slots Q (F0 m (pc + 3) ls (.ref (g.2.2.2 j) :: rest))) : W p l e R s m args below meth c H locs cells slots Q (F0 m pc ls rest) :=
  va_gets C.1 C.2.1 h.1 (sS_U hS) C.2.2.2.1 (C.2.2.2.2.1 _ hl) (fun _ h => h) hd kk
theorem rTld (C : CX p s m args c cc nL own g) (hS : sS g s H locs) {j N : Nat} {f : Nat → Int32} {nm : String} {i : Int32} (h : ST1 g s s.heap nm j N f) (hi : vp_in i N) (hd : decode cc pc = .ok (.iaload, 1))
    (kk : W p l e R s m args below meth c H locs cells slots Q (F0 m (pc + 1) ls (.int (f i.toNatClampNeg) :: rest))) : W p l e R s m args below meth c H locs cells slots Q (F0 m pc ls (.int i :: .ref (g.2.2.2 j) :: rest)) :=
  va_ti C.1 C.2.1 h.2 (sS_U hS) hi rfl hd kk
theorem rTlen (C : CX p s m args c cc nL own g) (hS : sS g s H locs) {j N : Nat} {f : Nat → Int32} {nm : String} {v : Int32} (h : ST1 g s s.heap nm j N f) (hv : Int32.ofNat N = v) (hd : decode cc pc = .ok (.arraylength, 1))
    (kk : W p l e R s m args below meth c H locs cells slots Q (F0 m (pc + 1) ls (.int v :: rest))) : W p l e R s m args below meth c H locs cells slots Q (F0 m pc ls (.ref (g.2.2.2 j) :: rest)) :=
  va_tlen C.1 C.2.1 h.2 (sS_U hS) hv hd kk
/-- behind a call -/
theorem cBack {post : Value → MM → Prop} {st0 : List Value} {a : Array Value} (hz : zz g ≤ s.heap.size) (hr : va_Run p l e R s m args below meth c H locs cells slots 0 0 (F0 m pc ls st0) rest (QQ g post a) (AA g)) (hS : sS g s H locs)
    (kk : ∀ (v : Value) (M' : MM) (H1 : Heap) (locs1 : List Loc), post v M' → Wd g M' H1 → sS g s H1 locs1 → W p l e R s m args below meth c H1 locs1 cells slots Q (F0 m (pc + 3) ls (v :: rest))) : W p l e R s m args below meth c H locs cells slots Q (F0 m pc ls st0) := by
  intro T hT X
  obtain ⟨v, st₀, t, T', L, h0, X', hL, e1, e2, ⟨⟨r, M', hv, hp, hb⟩, hz1, hk⟩, st⟩ := hr T hT X
  cases hv
  rw [h0] at hz1 hk
  obtain ⟨t2, a1, b1⟩ := kk r M' T'.heap (locs ++ L) hp (by rw [e1]; exact hb)
    ⟨Nat.le_trans hS.1 (by rw [e1]; exact hz1), fun q h1 h2 => by rw [e1, hk q (Nat.lt_of_lt_of_le h1 hS.1) h2]; exact hS.2.1 q h1 h2, fun q hq => by
      rcases List.mem_append.mp hq with h | h
      · exact hS.2.2 q h
      · exact hL q h⟩ T' rfl X'
  exact ⟨t2, st t2 a1, b1⟩
theorem cBackV {post : MM → Prop} {st0 : List Value} {a : Array Value} (hz : zz g ≤ s.heap.size) (hr : va_Run p l e R s m args below meth c H locs cells slots 0 0 (F0 m pc ls st0) rest (QV g post a) (AA g)) (hS : sS g s H locs)
    (kk : ∀ (M' : MM) (H1 : Heap) (locs1 : List Loc), post M' → Wd g M' H1 → sS g s H1 locs1 → W p l e R s m args below meth c H1 locs1 cells slots Q (F0 m (pc + 3) ls rest)) : W p l e R s m args below meth c H locs cells slots Q (F0 m pc ls st0) := by
  intro T hT X
  obtain ⟨v, st₀, t, T', L, h0, X', hL, e1, e2, ⟨⟨M', hv, hp, hb⟩, hz1, hk⟩, st⟩ := hr T hT X
  cases hv
  rw [h0] at hz1 hk
  obtain ⟨t2, a1, b1⟩ := kk M' T'.heap (locs ++ L) hp (by rw [e1]; exact hb)
    ⟨Nat.le_trans hS.1 (by rw [e1]; exact hz1), fun q h1 h2 => by rw [e1, hk q (Nat.lt_of_lt_of_le h1 hS.1) h2]; exact hS.2.1 q h1 h2, fun q hq => by
      rcases List.mem_append.mp hq with h | h
      · exact hS.2.2 q h
      · exact hL q h⟩ T' rfl X'
  exact ⟨t2, st t2 a1, b1⟩
/-- the words of a method that is called: its code, and how it is found; n arguments -/
def VW (y : MethodName) (bytes : ByteArray) (maxL : Nat) (ret : Option FieldType) (n : Nat) : Prop := Cond.code y bytes maxL ret ∈ WW ∧ Cond.instanceMethod y ∈ WW ∧ Cond.selects y.cls y y ∈ WW ∧ Cond.initialized y.cls ∈ WW ∧ y.cls ≠ "java/lang/invoke/MethodHandle" ∧ y.cls ≠ "java/lang/invoke/VarHandle" ∧ (parseMethodDescriptor y.desc).map (fun d => d.parameters.length) = some n
def SW (y : MethodName) (bytes : ByteArray) (maxL : Nat) (ret : Option FieldType) (n : Nat) : Prop := Cond.code y bytes maxL ret ∈ WW ∧ Cond.static y ∈ WW ∧ Cond.initialized y.cls ∈ WW ∧ y.cls ≠ "java/lang/invoke/MethodHandle" ∧ y.cls ≠ "java/lang/invoke/VarHandle" ∧ (parseMethodDescriptor y.desc).map (fun d => d.parameters.length) = some n
theorem recv (C : CX p s m args c cc nL own g) (hW : Wd g M H) {o ci : Nat} {r : vw_C} {fs : List Value} (ho : o < 1697) (he : tm g M o = .inr (ci, fs)) (hc : vwCl[ci]? = some r) : ∃ cell : Cell, H[zz g + o]? = some cell ∧ cell.vm.isStatics = false ∧ s.vm.findClass r.1 = some cell.cls := va_recv C.2.2.2.2.2.1 hW hc (by rw [wlN_get ho, he])
theorem runV {y : MethodName} {bytes : ByteArray} {maxL n index f lc o ci : Nat} {ret : Option FieldType} {Qc : Array Value → State → Outcome → State → Prop} {As : List Value} {r : vw_C} {fs : List Value} {st0 : List Value} (C : CX p s m args c cc nL own g) (hW : Wd g M H) (hS : sS g s H locs) (hM : Met l y (wm y bytes maxL ret) (RM f lc) (va_Pc (rf g o :: As) (WDp g M)) Qc 0 0 (AA g)) (hv : VW y bytes maxL ret n) (hl : Cond.methodLink own index y ∈ WW) (ho : o < 1697) (he : tm g M o = .inr (ci, fs)) (hc : vwCl[ci]? = some r) (hy : r.1 = y.cls) (hn : As.length = n) (hsz : ls.size = nL) (hst : st0 = As.reverse ++ rf g o :: rest) (hrm : (rest.map fun v => v.category).sum ≤ 8) (hR : f + 1 ≤ R.frames ∧ 8 + (maxL + 11) + lc ≤ R.locals) (hcs : cells ≤ R.cells ∧ slots ≤ R.slots) (hd : decode cc pc = .ok (.invokevirtual index, 3)) : va_Run p l e R s m args below meth c H locs cells slots 0 0 (F0 m pc ls st0) rest (Qc (rf g o :: As).toArray) (AA g) := by
  obtain ⟨v1, v2, v3, v4, v5, v6, v7⟩ := hv
  have ok : ∀ w ∈ WW, w.before args s = true := C.2.2.2.2.1
  refine va_runV (Ts := WW) (C := y.cls) ⟨C.1, C.2.1, C.2.2.1, C.2.2.2.1, ok⟩ hM ⟨callB_of n ok (wm_good v1) rfl rfl rfl (ok _ v4) (ok _ hl) ⟨v5, v6, v7⟩ hR, ok _ v2, ok _ v3⟩ ⟨WDp_blind, ?_, fun U hU hw => ⟨rfl, C.pre hW hS hU hw⟩⟩ rfl hn hsz hst (lv_room hrm) hd hcs
  rw [← hy]
  exact recv C hW ho he hc
theorem runS {y : MethodName} {bytes : ByteArray} {maxL n index f lc : Nat} {ret : Option FieldType} {Qc : Array Value → State → Outcome → State → Prop} {As : List Value} {st0 : List Value} (C : CX p s m args c cc nL own g) (hW : Wd g M H) (hS : sS g s H locs) (hM : Met l y (wm y bytes maxL ret) (RM f lc) (va_Pc As (WDp g M)) Qc 0 0 (AA g)) (hv : SW y bytes maxL ret n) (hl : Cond.methodLink own index y ∈ WW) (hn : As.length = n) (hsz : ls.size = nL) (hst : st0 = As.reverse ++ rest) (hrm : (rest.map fun v => v.category).sum ≤ 8) (hR : f + 1 ≤ R.frames ∧ 8 + (maxL + 11) + lc ≤ R.locals) (hcs : cells ≤ R.cells ∧ slots ≤ R.slots) (hd : decode cc pc = .ok (.invokestatic index, 3)) : va_Run p l e R s m args below meth c H locs cells slots 0 0 (F0 m pc ls st0) rest (Qc As.toArray) (AA g) := by
  obtain ⟨v1, v2, v4, v5, v6, v7⟩ := hv
  have ok : ∀ w ∈ WW, w.before args s = true := C.2.2.2.2.1
  exact va_runS (Ts := WW) ⟨C.1, C.2.1, C.2.2.1, C.2.2.2.1, ok⟩ hM ⟨callB_of n ok (wm_good v1) rfl rfl rfl (ok _ v4) (ok _ hl) ⟨v5, v6, v7⟩ hR, ok _ v2⟩ ⟨WDp_blind, fun U hU hw => ⟨rfl, C.pre hW hS hU hw⟩⟩ rfl hn hsz hst (lv_room hrm) hd hcs
theorem runSN {y : MethodName} {bytes : ByteArray} {maxL n index f lc : Nat} {ret : Option FieldType} {Qc : Array Value → State → Outcome → State → Prop} {As : List Value} {st0 : List Value} (C : CX p s m args c cc nL own g) (hW : Wd g M H) (hS : sS g s H locs) (hM : Met l y (wm y bytes maxL ret) (RM f lc) (va_Pc As (WDp g M)) Qc 0 0 (AA g)) (hv : SW y bytes maxL ret n) (hl : (own, index, y) ∈ NLm) (hn : As.length = n) (hsz : ls.size = nL) (hst : st0 = As.reverse ++ rest) (hrm : (rest.map fun v => v.category).sum ≤ 8) (hR : f + 1 ≤ R.frames ∧ 8 + (maxL + 11) + lc ≤ R.locals) (hcs : cells ≤ R.cells ∧ slots ≤ R.slots) (hd : decode cc pc = .ok (.invokestatic index, 3)) : va_Run p l e R s m args below meth c H locs cells slots 0 0 (F0 m pc ls st0) rest (Qc As.toArray) (AA g) := by
  obtain ⟨v1, v2, v4, v5, v6, v7⟩ := hv
  have ok : ∀ w ∈ WW, w.before args s = true := C.2.2.2.2.1
  exact va_runSN (Ts := WW) (host := "BellFoundry") ⟨C.1, C.2.1, C.2.2.1, C.2.2.2.1, ok⟩ hM ⟨va_cnB n ok (wm_good v1) rfl rfl rfl (C.2.2.2.2.2.2.2.1.2 _ hl) (ok _ v4) ⟨v5, v6, v7⟩ hR, ok _ v2, trivial⟩ ⟨WDp_blind, fun U hU hw => ⟨rfl, C.pre hW hS hU hw⟩⟩ rfl hn hsz hst (lv_room hrm) hd hcs
-- ends
theorem rI {post : Value → MM → Prop} {x : Int32} (C : CX p s m args c cc nL own g) (hr : meth.sig.returnType = some .int) (hk : meth.locks = false) (hd : decode cc pc = .ok (.ireturn, 1)) (hW : Wd g M H) (hS : sS g s H locs) (hp : post (.int x) M) : W p l e R s m args below meth c H locs cells slots (MQ below (QQ g post) args s cells slots (AA g)) (F0 m pc ls [.int x]) :=
  W.iret C.1 C.2.1 hr (fun t ht hw => ⟨⟨_, M, rfl, hp, by rw [ht]; exact hW⟩, hS.F ht⟩) hS.2.2 hd hk
theorem rZ {post : Value → MM → Prop} {x : Int32} (C : CX p s m args c cc nL own g) (hr : meth.sig.returnType = some .boolean) (hk : meth.locks = false) (hd : decode cc pc = .ok (.ireturn, 1)) (hW : Wd g M H) (hS : sS g s H locs) (h01 : narrow .boolean (.int x) = .int x) (hp : post (.int x) M) : W p l e R s m args below meth c H locs cells slots (MQ below (QQ g post) args s cells slots (AA g)) (F0 m pc ls [.int x]) :=
  W.zret C.1 C.2.1 hr h01 (fun t ht hw => ⟨⟨_, M, rfl, hp, by rw [ht]; exact hW⟩, hS.F ht⟩) hS.2.2 hd hk
theorem rL {post : Value → MM → Prop} {x : Int64} (C : CX p s m args c cc nL own g) (hr : meth.sig.returnType = some .long) (hk : meth.locks = false) (hd : decode cc pc = .ok (.lreturn, 1)) (hW : Wd g M H) (hS : sS g s H locs) (hp : post (.long x) M) : W p l e R s m args below meth c H locs cells slots (MQ below (QQ g post) args s cells slots (AA g)) (F0 m pc ls [.long x]) :=
  W.lret C.1 C.2.1 hr (fun t ht hw => ⟨⟨_, M, rfl, hp, by rw [ht]; exact hW⟩, hS.F ht⟩) hS.2.2 hd hk
theorem rA {post : Value → MM → Prop} {v : Value} {nm : String} (C : CX p s m args c cc nL own g) (hr : meth.sig.returnType = some (.object nm)) (hk : meth.locks = false) (hd : decode cc pc = .ok (.areturn, 1)) (hW : Wd g M H) (hS : sS g s H locs) (hv : v = .null ∨ ∃ a, v = .ref a) (hp : post v M) : W p l e R s m args below meth c H locs cells slots (MQ below (QQ g post) args s cells slots (AA g)) (F0 m pc ls [v]) :=
  W.aret C.1 C.2.1 hr (Or.inl ⟨_, rfl⟩) hv (fun t ht hw => ⟨⟨_, M, rfl, hp, by rw [ht]; exact hW⟩, hS.F ht⟩) hS.2.2 hd hk
theorem rV {post : MM → Prop} (C : CX p s m args c cc nL own g) (hr : meth.sig.returnType = none) (hk : meth.locks = false) (hd : decode cc pc = .ok (.return_, 1)) (hW : Wd g M H) (hS : sS g s H locs) (hp : post M) : W p l e R s m args below meth c H locs cells slots (MQ below (QV g post) args s cells slots (AA g)) (F0 m pc ls []) :=
  W.vret C.1 C.2.1 hr (fun t ht hw => ⟨⟨M, rfl, hp, by rw [ht]; exact hW⟩, hS.F ht⟩) hS.2.2 hd hk
end RWS
/-- a method's contract out of its walk -/
theorem mkM {l : Launch} {y : MethodName} {cc : ByteArray} {maxL f lc : Nat} {ret : Option FieldType} {g : GD} {M : MM} {av : List Value} {Qc : Array Value → State → Outcome → State → Prop} (hy : plainName y.cls = true) (hlen : (lg_sl av).length ≤ maxL)
    (body : ∀ p e s m below meth c, CX p s m av.toArray c cc maxL y.cls g → meth.sig.returnType = ret → meth.locks = false → Wd g M s.heap → sS g s s.heap [] → ∀ ls : Array Slot, lv_has ls maxL (lv_args 0 av) → W p l e (RM f lc) s m av.toArray below meth c s.heap [] 0 0 (MQ below Qc av.toArray s 0 0 (AA g)) (F0 m 0 ls [])) : Met l y (wm y cc maxL ret) (RM f lc) (va_Pc av (WDp g M)) Qc 0 0 (AA g) := by
  refine Met.ofW (cc := cc) (maxL := maxL) (ret := ret) hy rfl ?_
  intro p e s m args below meth c s₁ B hml hv
  obtain ⟨rfl, hW, hK, hT, hN, hz⟩ := hv
  have hts := atoms_spec (ws := wm y cc maxL ret) B.pre
  have C : CX p s m av.toArray c cc maxL y.cls g := ⟨B.exec, B.bytes, hml, findClass_of_methodNamed B.named, fun w h => hts w (List.mem_cons_of_mem _ h), hK, hT, hN, hz⟩
  rw [lg_entry_eq]
  exact body p e s m below meth c C B.returns B.notSynchronized hW va_S.rf _ (lv_entry av hlen)
