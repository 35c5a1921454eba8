def lp_J7_fill_53178_5 (fu : Nat) (M : MM)  (x : Int32) (z : Int32) (y : Int32) : Option (Unit × MM) := match fu with
  | 0 => none
  | n + 1 => (if (y : Int32) ≤ (z : Int32) then some ((), M) else (if vin (z) 100 then (letB (up2 M 13 (z : Int32).toNatClampNeg (x)) fun M1003 => (lp_J7_fill_53178_5 n M1003   x (z + 1) y)) else none))
def f_J7_fill_53178 (M : MM) (x : Int32) : Option (Unit × MM) := (lp_J7_fill_53178_5 FU M   x 0 100)
set_option maxHeartbeats 4000000 in
set_option maxRecDepth 100000 in
theorem t_J7_fill_53178_5 (l : Launch) (g : GD) {p : Program} {e : Env} {s : State} {m : MethodId} {av : Array Value} {below : List Frame} {meth : Method} {c : Code}  (n : Nat) : ∀ (M : MM) (x : Int32) (z : Int32) (y : Int32) (r : Unit) (M2 : MM), lp_J7_fill_53178_5 n M   x z y = some (r, M2) → CX p s m av c cJ7_fill_53178 4 RJ7 g → meth.sig.returnType = none → meth.locks = false → ∀ (H : Heap) (locs : List Loc), Wd g M H → sS g s H locs → ∀ ls : Array Slot, lv_has ls 4 [(0, rf g (1690)), (1, .int (x)), (2, .int (z)), (3, .int (y))] → W p l e (RM 0 0) s m av below meth c H locs 0 0 (MQ below (QV g (fun w0 => M2 = w0)) av s 0 0 (AA g)) (F0 m 5 ls []) := by
  induction n with
  | zero => intro M x z y r M2 h; cases h
  | succ n ih0 =>
    intro M x z y r M2 h C hr hlk H locs hW hS ls hl
    have ih : ∀ (M : MM) (x : Int32) (z : Int32) (y : Int32), lp_J7_fill_53178_5 n M   x z y = some (r, M2) → ∀ (H : Heap) (locs : List Loc), Wd g M H → sS g s H locs → ∀ ls : Array Slot, lv_has ls 4 [(0, rf g (1690)), (1, .int (x)), (2, .int (z)), (3, .int (y))] → W p l e (RM 0 0) s m av below meth c H locs 0 0 (MQ below (QV g (fun w0 => M2 = w0)) av s 0 0 (AA g)) (F0 m 5 ls []) := fun M x z y h H locs hW hS ls hl => ih0 M x z y r M2 h C hr hlk H locs hW hS ls hl
    unfold lp_J7_fill_53178_5 at h
    try dsimp only at h
    have hx := C.1
    have hb := C.2.1
    have hts := C.2.2.2.2.1
    refine lv_iload_n hx hb dJ7_fill_53178_5 rfl (lv_at hl 2 rfl) ?_
    refine lv_iload_n hx hb dJ7_fill_53178_6 rfl (lv_at hl 3 rfl) ?_
    refine lv_icmp_ge (tgt := 20) hx hb dJ7_fill_53178_7 (by decide) (fun c1001 => ?_) (fun c1001 => ?_)
    · rw [if_pos c1001] at h
      cases h
      exact rV C hr hlk dJ7_fill_53178_20 hW hS rfl
    · rw [if_neg c1001] at h
      refine lv_aload_n hx hb dJ7_fill_53178_10 rfl (lv_at hl 0 rfl) ?_
      refine lv_iload_n hx hb dJ7_fill_53178_11 rfl (lv_at hl 2 rfl) ?_
      refine lv_iload_n hx hb dJ7_fill_53178_12 rfl (lv_at hl 1 rfl) ?_
      have s1002 : vin (z) 100 := Classical.byContradiction fun q9 => by rw [if_neg q9] at h; cases h
      rw [if_pos s1002] at h
      refine rIst (M' := up2 M 13 (z : Int32).toNatClampNeg (x)) C hW hS (by decide) tm_hangs s1002 (UPD_G (by decide) rfl (by rw [tm_hangs, up2_gr])) dJ7_fill_53178_13 (fun H locs hW hS => ?_)
      have hW : Wd g (up2 M 13 (z : Int32).toNatClampNeg (x)) H := hW
      have h := letE h
      generalize up2 M 13 (z : Int32).toNatClampNeg (x) = M1003 at hW h
      refine lv_iinc (v := z + 1) (lv' := [(2, .int (z + 1)), (0, rf g (1690)), (1, .int (x)), (3, .int (y))]) hx hb dJ7_fill_53178_14 hl (k := 2) rfl rfl (by decide) rfl (fun ls hl => ?_)
      refine lv_goto (tgt := 5) hx hb dJ7_fill_53178_17 (by decide) ?_
      exact ih M1003 x (z + 1) y h _ _ hW hS ls (lv_sub hl [1, 2, 0, 3] rfl)
set_option maxHeartbeats 4000000 in
set_option maxRecDepth 100000 in
theorem c_J7_fill_53178 (l : Launch) (g : GD) (M : MM) (x : Int32) (r : Unit) (M2 : MM) (h : f_J7_fill_53178 M x = some (r, M2)) : Met l yJ7_fill_53178 (wm yJ7_fill_53178 cJ7_fill_53178 4 none) (RM 0 0) (va_Pc [rf g (1690), .int (x)] (WDp g M)) (QV g (fun w0 => M2 = w0)) 0 0 (AA g) := by
  refine mkM (by decide +kernel) (Nat.le_of_ble_eq_true rfl) ?_
  intro p e s m below meth c C hr hlk hW hS ls hl
  have hl : lv_has ls 4 [(0, rf g (1690)), (1, .int (x))] := hl
  have hx := C.1
  have hb := C.2.1
  have hts := C.2.2.2.2.1
  unfold f_J7_fill_53178 at h
  refine lv_iconst (v := 0) hx hb dJ7_fill_53178_0 (by decide) ?_
  refine lv_istore_n (lv' := [(2, .int (0)), (0, rf g (1690)), (1, .int (x))]) hx hb dJ7_fill_53178_1 rfl hl (by decide) rfl (fun ls hl => ?_)
  refine lv_aload_n hx hb dJ7_fill_53178_2 rfl (lv_at hl 1 rfl) ?_
  refine rLenI (j := 0) (v := 100) C hW (by decide) tm_hangs rfl (by decide) dJ7_fill_53178_3 ?_
  refine lv_istore_n (lv' := [(3, .int (100)), (2, .int (0)), (0, rf g (1690)), (1, .int (x))]) hx hb dJ7_fill_53178_4 rfl hl (by decide) rfl (fun ls hl => ?_)
  exact t_J7_fill_53178_5 l g    FU M x 0 100 _ _ h C hr hlk _ _ hW hS ls (lv_sub hl [2, 3, 1, 0] rfl)
def f_X8_clear (M : MM)  : Option (Unit × MM) := (letB (up2 M 7 0 (0)) fun M1 => some ((), M1))
set_option maxHeartbeats 4000000 in
set_option maxRecDepth 100000 in
theorem c_X8_clear (l : Launch) (g : GD) (M : MM)  (r : Unit) (M2 : MM) (h : f_X8_clear M  = some (r, M2)) : Met l yX8_clear (wm yX8_clear cX8_clear 1 none) (RM 0 0) (va_Pc [rf g (1683)] (WDp g M)) (QV g (fun w0 => M2 = w0)) 0 0 (AA g) := by
  refine mkM (by decide +kernel) (Nat.le_of_ble_eq_true rfl) ?_
  intro p e s m below meth c C hr hlk hW hS ls hl
  have hl : lv_has ls 1 [(0, rf g (1683))] := hl
  have hx := C.1
  have hb := C.2.1
  have hts := C.2.2.2.2.1
  unfold f_X8_clear at h
  refine lv_aload_n hx hb dX8_clear_0 rfl (lv_at hl 0 rfl) ?_
  refine lv_iconst (v := 0) hx hb dX8_clear_1 (by decide) ?_
  refine rPut (k := 2) C hW hS (by decide) tm_Pack rfl inX8 tyX8_ok nmX8 (by decide) fl_X8_18 rfl (by decide +kernel) (Nat.le_of_ble_eq_true rfl) (upd_Pack_size _) dX8_clear_2 (fun H locs hW hS => ?_)
  have hW : Wd g (up2 M 7 0 (0)) H := hW
  have h := letE h
  generalize up2 M 7 0 (0) = M1 at hW h
  cases h
  exact rV C hr hlk dX8_clear_5 hW hS rfl
def f_X8_add (M : MM) (x : Int32) : Option (Unit × MM) := (if (12 : Int32) ≤ (M 7 0 : Int32) then some ((), M) else (if vin (M 7 0) 12 then (letB (up2 M 8 (M 7 0 : Int32).toNatClampNeg (x)) fun M3 => (letB (up2 M3 7 0 ((M3 7 0) + (1))) fun M4 => some ((), M4))) else none))
set_option maxHeartbeats 4000000 in
set_option maxRecDepth 100000 in
theorem c_X8_add (l : Launch) (g : GD) (M : MM) (x : Int32) (r : Unit) (M2 : MM) (h : f_X8_add M x = some (r, M2)) : Met l yX8_add (wm yX8_add cX8_add 2 none) (RM 0 0) (va_Pc [rf g (1683), .int (x)] (WDp g M)) (QV g (fun w0 => M2 = w0)) 0 0 (AA g) := by
  refine mkM (by decide +kernel) (Nat.le_of_ble_eq_true rfl) ?_
  intro p e s m below meth c C hr hlk hW hS ls hl
  have hl : lv_has ls 2 [(0, rf g (1683)), (1, .int (x))] := hl
  have hx := C.1
  have hb := C.2.1
  have hts := C.2.2.2.2.1
  unfold f_X8_add at h
  refine lv_aload_n hx hb dX8_add_0 rfl (lv_at hl 0 rfl) ?_
  refine rGet (k := 2) C hW (by decide) tm_Pack rfl inX8 (by decide) fl_X8_18 rfl dX8_add_1 ?_
  refine lv_aload_n hx hb dX8_add_4 rfl (lv_at hl 0 rfl) ?_
  refine rGet (k := 0) C hW (by decide) tm_Pack rfl inX8 (by decide) fl_X8_9 rfl dX8_add_5 ?_
  refine rLenI (j := 0) (v := 12) C hW (by decide) tm_weights rfl (by decide) dX8_add_8 ?_
  refine lv_icmp_ge (tgt := 32) hx hb dX8_add_9 (by decide) (fun c1 => ?_) (fun c1 => ?_)
  · rw [if_pos c1] at h
    cases h
    exact rV C hr hlk dX8_add_32 hW hS rfl
  · rw [if_neg c1] at h
    refine lv_aload_n hx hb dX8_add_12 rfl (lv_at hl 0 rfl) ?_
    refine rGet (k := 0) C hW (by decide) tm_Pack rfl inX8 (by decide) fl_X8_9 rfl dX8_add_13 ?_
    refine lv_aload_n hx hb dX8_add_16 rfl (lv_at hl 0 rfl) ?_
    refine rGet (k := 2) C hW (by decide) tm_Pack rfl inX8 (by decide) fl_X8_18 rfl dX8_add_17 ?_
    refine lv_iload_n hx hb dX8_add_20 rfl (lv_at hl 1 rfl) ?_
    have s2 : vin (M 7 0) 12 := Classical.byContradiction fun q9 => by rw [if_neg q9] at h; cases h
    rw [if_pos s2] at h
    refine rIst (M' := up2 M 8 (M 7 0 : Int32).toNatClampNeg (x)) C hW hS (by decide) tm_weights s2 (UPD_G (by decide) rfl (by rw [tm_weights, up2_gr])) dX8_add_21 (fun H locs hW hS => ?_)
    have hW : Wd g (up2 M 8 (M 7 0 : Int32).toNatClampNeg (x)) H := hW
    have h := letE h
    generalize up2 M 8 (M 7 0 : Int32).toNatClampNeg (x) = M3 at hW h
    refine lv_aload_n hx hb dX8_add_22 rfl (lv_at hl 0 rfl) ?_
    refine lv_dup hx hb dX8_add_23 rfl ?_
    refine rGet (k := 2) C hW (by decide) tm_Pack rfl inX8 (by decide) fl_X8_18 rfl dX8_add_24 ?_
    refine lv_iconst (v := 1) hx hb dX8_add_27 (by decide) ?_
    refine lv_iadd hx hb dX8_add_28 ?_
    refine rPut (k := 2) C hW hS (by decide) tm_Pack rfl inX8 tyX8_ok nmX8 (by decide) fl_X8_18 rfl (by decide +kernel) (Nat.le_of_ble_eq_true rfl) (upd_Pack_size _) dX8_add_29 (fun H locs hW hS => ?_)
    have hW : Wd g (up2 M3 7 0 ((M3 7 0) + (1))) H := hW
    have h := letE h
    generalize up2 M3 7 0 ((M3 7 0) + (1)) = M4 at hW h
    cases h
    exact rV C hr hlk dX8_add_32 hW hS rfl
def lp_X8_heaviest_4 (fu : Nat) (M : MM)  (u : Int32) (z : Int32) : Option (Int32 × MM) := match fu with
  | 0 => none
  | n + 1 => (if (M 7 0 : Int32) ≤ (z : Int32) then some (u, M) else (if vin (z) 12 then (lp_X8_heaviest_4 n M   (jmax (u) (M 8 (z : Int32).toNatClampNeg)) (z + 1)) else none))
def f_X8_heaviest (M : MM)  : Option (Int32 × MM) := (lp_X8_heaviest_4 FU M   0 0)
set_option maxHeartbeats 4000000 in
set_option maxRecDepth 100000 in
theorem t_X8_heaviest_4 (l : Launch) (g : GD) {p : Program} {e : Env} {s : State} {m : MethodId} {av : Array Value} {below : List Frame} {meth : Method} {c : Code}  (n : Nat) : ∀ (M : MM) (u : Int32) (z : Int32) (r : Int32) (M2 : MM), lp_X8_heaviest_4 n M   u z = some (r, M2) → CX p s m av c cX8_heaviest 3 RX8 g → meth.sig.returnType = (some .int) → meth.locks = false → ∀ (H : Heap) (locs : List Loc), Wd g M H → sS g s H locs → ∀ ls : Array Slot, lv_has ls 3 [(0, rf g (1683)), (1, .int (u)), (2, .int (z))] → W p l e (RM 1 40) s m av below meth c H locs 0 0 (MQ below (QQ g (fun v w0 => v = .int r ∧ M2 = w0)) av s 0 0 (AA g)) (F0 m 4 ls []) := by
  induction n with
  | zero => intro M u z r M2 h; cases h
  | succ n ih0 =>
    intro M u z r M2 h C hr hlk H locs hW hS ls hl
    have ih : ∀ (M : MM) (u : Int32) (z : Int32), lp_X8_heaviest_4 n M   u z = some (r, M2) → ∀ (H : Heap) (locs : List Loc), Wd g M H → sS g s H locs → ∀ ls : Array Slot, lv_has ls 3 [(0, rf g (1683)), (1, .int (u)), (2, .int (z))] → W p l e (RM 1 40) s m av below meth c H locs 0 0 (MQ below (QQ g (fun v w0 => v = .int r ∧ M2 = w0)) av s 0 0 (AA g)) (F0 m 4 ls []) := fun M u z h H locs hW hS ls hl => ih0 M u z r M2 h C hr hlk H locs hW hS ls hl
    unfold lp_X8_heaviest_4 at h
    try dsimp only at h
    have hx := C.1
    have hb := C.2.1
    have hts := C.2.2.2.2.1
    refine lv_iload_n hx hb dX8_heaviest_4 rfl (lv_at hl 2 rfl) ?_
    refine lv_aload_n hx hb dX8_heaviest_5 rfl (lv_at hl 0 rfl) ?_
    refine rGet (k := 2) C hW (by decide) tm_Pack rfl inX8 (by decide) fl_X8_18 rfl dX8_heaviest_6 ?_
    refine lv_icmp_ge (tgt := 29) hx hb dX8_heaviest_9 (by decide) (fun c1001 => ?_) (fun c1001 => ?_)
    · rw [if_pos c1001] at h
      refine lv_iload_n hx hb dX8_heaviest_29 rfl (lv_at hl 1 rfl) ?_
      cases h
      exact rI C hr hlk dX8_heaviest_30 hW hS ⟨rfl, rfl⟩
    · rw [if_neg c1001] at h
      refine lv_iload_n hx hb dX8_heaviest_12 rfl (lv_at hl 1 rfl) ?_
      refine lv_aload_n hx hb dX8_heaviest_13 rfl (lv_at hl 0 rfl) ?_
      refine rGet (k := 0) C hW (by decide) tm_Pack rfl inX8 (by decide) fl_X8_9 rfl dX8_heaviest_14 ?_
      refine lv_iload_n hx hb dX8_heaviest_17 rfl (lv_at hl 2 rfl) ?_
      have s1002 : vin (z) 12 := Classical.byContradiction fun q9 => by rw [if_neg q9] at h; cases h
      rw [if_pos s1002] at h
      refine rIld C hW (by decide) tm_weights s1002 dX8_heaviest_18 ?_
      refine va_mmax hx hb (C.2.2.1.trans hl.1.symm) C.2.2.2.1 (hts _ ml_X8_22) (hts _ st_max) (hts _ in_J9) (hts _ co_max) (Nat.le_of_ble_eq_true rfl) (Nat.le_of_ble_eq_true rfl) (Nat.zero_le _) (Nat.zero_le _) dX8_heaviest_19 ?_
      refine lv_istore_n (lv' := [(1, .int (jmax (u) (M 8 (z : Int32).toNatClampNeg))), (0, rf g (1683)), (2, .int (z))]) hx hb dX8_heaviest_22 rfl hl (by decide) rfl (fun ls hl => ?_)
      refine lv_iinc (v := z + 1) (lv' := [(2, .int (z + 1)), (1, .int (jmax (u) (M 8 (z : Int32).toNatClampNeg))), (0, rf g (1683))]) hx hb dX8_heaviest_23 hl (k := 2) rfl rfl (by decide) rfl (fun ls hl => ?_)
      refine lv_goto (tgt := 4) hx hb dX8_heaviest_26 (by decide) ?_
      exact ih M (jmax (u) (M 8 (z : Int32).toNatClampNeg)) (z + 1) h _ _ hW hS ls (lv_sub hl [2, 1, 0] rfl)
set_option maxHeartbeats 4000000 in
set_option maxRecDepth 100000 in
theorem c_X8_heaviest (l : Launch) (g : GD) (M : MM)  (r : Int32) (M2 : MM) (h : f_X8_heaviest M  = some (r, M2)) : Met l yX8_heaviest (wm yX8_heaviest cX8_heaviest 3 (some .int)) (RM 1 40) (va_Pc [rf g (1683)] (WDp g M)) (QQ g (fun v w0 => v = .int r ∧ M2 = w0)) 0 0 (AA g) := by
  refine mkM (by decide +kernel) (Nat.le_of_ble_eq_true rfl) ?_
  intro p e s m below meth c C hr hlk hW hS ls hl
  have hl : lv_has ls 3 [(0, rf g (1683))] := hl
  have hx := C.1
  have hb := C.2.1
  have hts := C.2.2.2.2.1
  unfold f_X8_heaviest at h
  refine lv_iconst (v := 0) hx hb dX8_heaviest_0 (by decide) ?_
  refine lv_istore_n (lv' := [(1, .int (0)), (0, rf g (1683))]) hx hb dX8_heaviest_1 rfl hl (by decide) rfl (fun ls hl => ?_)
  refine lv_iconst (v := 0) hx hb dX8_heaviest_2 (by decide) ?_
  refine lv_istore_n (lv' := [(2, .int (0)), (1, .int (0)), (0, rf g (1683))]) hx hb dX8_heaviest_3 rfl hl (by decide) rfl (fun ls hl => ?_)
  exact t_X8_heaviest_4 l g    FU M 0 0 _ _ h C hr hlk _ _ hW hS ls (lv_sub hl [2, 1, 0] rfl)
def lp_X8_bestFor_13 (fu : Nat) (M : MM)  (x : Int32) (y : Int32) (u : Int32) (z : Int32) : Option (Int32 × MM) := match fu with
  | 0 => none
  | n + 1 => (if (M 7 0 : Int32) ≤ (z : Int32) then some (u, M) else (if ((x) &&& ((1) <<< ((z) &&& 31)) : Int32) = 0 then (lp_X8_bestFor_13 n M   x y u (z + 1)) else (if vin ((x) - ((1) <<< ((z) &&& 31))) 4096 then (letJ ((M 9 ((x) - ((1) <<< ((z) &&& 31)) : Int32).toNatClampNeg) - (M 9 ((x) - ((1) <<< ((z) &&& 31)) : Int32).toNatClampNeg) / (32768) * (32768)) fun x1005 => (if vin (z) 12 then (if (y : Int32) < ((x1005) + (M 8 (z : Int32).toNatClampNeg) : Int32) then (if vin (z) 12 then (letJ ((((M 9 ((x) - ((1) <<< ((z) &&& 31)) : Int32).toNatClampNeg) - (x1005)) + (32768)) + (M 8 (z : Int32).toNatClampNeg)) fun x1009 => (lp_X8_bestFor_13 n M   x y (jmin (u) (x1009)) (z + 1))) else none) else (if vin (z) 12 then (letJ ((M 9 ((x) - ((1) <<< ((z) &&& 31)) : Int32).toNatClampNeg) + (M 8 (z : Int32).toNatClampNeg)) fun x1011 => (lp_X8_bestFor_13 n M   x y (jmin (u) (x1011)) (z + 1))) else none)) else none)) else none)))
def f_X8_bestFor (M : MM) (x : Int32) (y : Int32) : Option (Int32 × MM) := (lp_X8_bestFor_13 FU M   x y ((32768) * ((M 7 0) + (1))) 0)
set_option maxHeartbeats 4000000 in
set_option maxRecDepth 100000 in
theorem t_X8_bestFor_13 (l : Launch) (g : GD) {p : Program} {e : Env} {s : State} {m : MethodId} {av : Array Value} {below : List Frame} {meth : Method} {c : Code}  (n : Nat) : ∀ (M : MM) (x : Int32) (y : Int32) (u : Int32) (z : Int32) (r : Int32) (M2 : MM), lp_X8_bestFor_13 n M   x y u z = some (r, M2) → CX p s m av c cX8_bestFor 8 RX8 g → meth.sig.returnType = (some .int) → meth.locks = false → ∀ (H : Heap) (locs : List Loc), Wd g M H → sS g s H locs → ∀ ls : Array Slot, lv_has ls 8 [(0, rf g (1683)), (1, .int (x)), (2, .int (y)), (3, .int (u)), (4, .int (z))] → W p l e (RM 1 40) s m av below meth c H locs 0 0 (MQ below (QQ g (fun v w0 => v = .int r ∧ M2 = w0)) av s 0 0 (AA g)) (F0 m 13 ls []) := by
  induction n with
  | zero => intro M x y u z r M2 h; cases h
  | succ n ih0 =>
    intro M x y u z r M2 h C hr hlk H locs hW hS ls hl
    have ih : ∀ (M : MM) (x : Int32) (y : Int32) (u : Int32) (z : Int32), lp_X8_bestFor_13 n M   x y u z = some (r, M2) → ∀ (H : Heap) (locs : List Loc), Wd g M H → sS g s H locs → ∀ ls : Array Slot, lv_has ls 8 [(0, rf g (1683)), (1, .int (x)), (2, .int (y)), (3, .int (u)), (4, .int (z))] → W p l e (RM 1 40) s m av below meth c H locs 0 0 (MQ below (QQ g (fun v w0 => v = .int r ∧ M2 = w0)) av s 0 0 (AA g)) (F0 m 13 ls []) := fun M x y u z h H locs hW hS ls hl => ih0 M x y u z r M2 h C hr hlk H locs hW hS ls hl
    unfold lp_X8_bestFor_13 at h
    try dsimp only at h
    have hx := C.1
    have hb := C.2.1
    have hts := C.2.2.2.2.1
    refine lv_iload hx hb dX8_bestFor_13 (lv_at hl 4 rfl) ?_
    refine lv_aload_n hx hb dX8_bestFor_15 rfl (lv_at hl 0 rfl) ?_
    refine rGet (k := 2) C hW (by decide) tm_Pack rfl inX8 (by decide) fl_X8_18 rfl dX8_bestFor_16 ?_
    refine lv_icmp_ge (tgt := 109) hx hb dX8_bestFor_19 (by decide) (fun c1001 => ?_) (fun c1001 => ?_)
    · rw [if_pos c1001] at h
      refine lv_iload_n hx hb dX8_bestFor_109 rfl (lv_at hl 3 rfl) ?_
      cases h
      exact rI C hr hlk dX8_bestFor_110 hW hS ⟨rfl, rfl⟩
    · rw [if_neg c1001] at h
      refine lv_iload_n hx hb dX8_bestFor_22 rfl (lv_at hl 1 rfl) ?_
      refine lv_iconst (v := 1) hx hb dX8_bestFor_23 (by decide) ?_
      refine lv_iload hx hb dX8_bestFor_24 (lv_at hl 4 rfl) ?_
      refine lv_ishl hx hb dX8_bestFor_26 ?_
      refine lv_iand hx hb dX8_bestFor_27 ?_
      refine lv_if_eq (tgt := 103) hx hb dX8_bestFor_28 (by decide) (fun c1002 => ?_) (fun c1002 => ?_)
      · rw [if_pos c1002] at h
        refine lv_iinc (v := z + 1) (lv' := [(4, .int (z + 1)), (0, rf g (1683)), (1, .int (x)), (2, .int (y)), (3, .int (u))]) hx hb dX8_bestFor_103 hl (k := 4) rfl rfl (by decide) rfl (fun ls hl => ?_)
        refine lv_goto (tgt := 13) hx hb dX8_bestFor_106 (by decide) ?_
        exact ih M x y u (z + 1) h _ _ hW hS ls (lv_sub hl [1, 2, 3, 4, 0] rfl)
      · rw [if_neg c1002] at h
        refine lv_aload_n hx hb dX8_bestFor_31 rfl (lv_at hl 0 rfl) ?_
        refine rGet (k := 1) C hW (by decide) tm_Pack rfl inX8 (by decide) fl_X8_15 rfl dX8_bestFor_32 ?_
        refine lv_iload_n hx hb dX8_bestFor_35 rfl (lv_at hl 1 rfl) ?_
        refine lv_iconst (v := 1) hx hb dX8_bestFor_36 (by decide) ?_
        refine lv_iload hx hb dX8_bestFor_37 (lv_at hl 4 rfl) ?_
        refine lv_ishl hx hb dX8_bestFor_39 ?_
        refine lv_isub hx hb dX8_bestFor_40 ?_
        have s1003 : vin ((x) - ((1) <<< ((z) &&& 31))) 4096 := Classical.byContradiction fun q9 => by rw [if_neg q9] at h; cases h
        rw [if_pos s1003] at h
        refine rIld C hW (by decide) tm_best s1003 dX8_bestFor_41 ?_
        refine lv_istore (lv' := [(5, .int (M 9 ((x) - ((1) <<< ((z) &&& 31)) : Int32).toNatClampNeg)), (0, rf g (1683)), (1, .int (x)), (2, .int (y)), (3, .int (u)), (4, .int (z))]) hx hb dX8_bestFor_42 hl (by decide) rfl (fun ls hl => ?_)
        refine lv_iload hx hb dX8_bestFor_44 (lv_at hl 0 rfl) ?_
        refine lv_ldc hx hb C.2.2.2.1 (C.2.2.2.2.1 _ kc_X8_31) dX8_bestFor_46 ?_
        refine lv_irem hx hb dX8_bestFor_48 (by decide) ?_
        refine lv_topi (fun x1005 ex1005 => ?_)
        have ex1005 : x1005 = (M 9 ((x) - ((1) <<< ((z) &&& 31)) : Int32).toNatClampNeg) - (M 9 ((x) - ((1) <<< ((z) &&& 31)) : Int32).toNatClampNeg) / (32768) * (32768) := ex1005
        have h := letEJ h
        try rw [← ex1005] at h
        refine lv_istore (lv' := [(6, .int (x1005)), (5, .int (M 9 ((x) - ((1) <<< ((z) &&& 31)) : Int32).toNatClampNeg)), (0, rf g (1683)), (1, .int (x)), (2, .int (y)), (3, .int (u)), (4, .int (z))]) hx hb dX8_bestFor_49 hl (by decide) rfl (fun ls hl => ?_)
        refine lv_iload hx hb dX8_bestFor_51 (lv_at hl 0 rfl) ?_
        refine lv_aload_n hx hb dX8_bestFor_53 rfl (lv_at hl 2 rfl) ?_
        refine rGet (k := 0) C hW (by decide) tm_Pack rfl inX8 (by decide) fl_X8_9 rfl dX8_bestFor_54 ?_
        refine lv_iload hx hb dX8_bestFor_57 (lv_at hl 6 rfl) ?_
        have s1006 : vin (z) 12 := Classical.byContradiction fun q9 => by rw [if_neg q9] at h; cases h
        rw [if_pos s1006] at h
        refine rIld C hW (by decide) tm_weights s1006 dX8_bestFor_59 ?_
        refine lv_iadd hx hb dX8_bestFor_60 ?_
        refine lv_iload_n hx hb dX8_bestFor_61 rfl (lv_at hl 4 rfl) ?_
        refine lv_icmp_gt (tgt := 78) hx hb dX8_bestFor_62 (by decide) (fun c1007 => ?_) (fun c1007 => ?_)
        · rw [if_pos c1007] at h
          refine lv_iload hx hb dX8_bestFor_78 (lv_at hl 1 rfl) ?_
          refine lv_iload hx hb dX8_bestFor_80 (lv_at hl 0 rfl) ?_
          refine lv_isub hx hb dX8_bestFor_82 ?_
          refine lv_ldc hx hb C.2.2.2.1 (C.2.2.2.2.1 _ kc_X8_31) dX8_bestFor_83 ?_
          refine lv_iadd hx hb dX8_bestFor_85 ?_
          refine lv_aload_n hx hb dX8_bestFor_86 rfl (lv_at hl 2 rfl) ?_
          refine rGet (k := 0) C hW (by decide) tm_Pack rfl inX8 (by decide) fl_X8_9 rfl dX8_bestFor_87 ?_
          refine lv_iload hx hb dX8_bestFor_90 (lv_at hl 6 rfl) ?_
          have s1008 : vin (z) 12 := Classical.byContradiction fun q9 => by rw [if_neg q9] at h; cases h
          rw [if_pos s1008] at h
          refine rIld C hW (by decide) tm_weights s1008 dX8_bestFor_92 ?_
          refine lv_iadd hx hb dX8_bestFor_93 ?_
          refine lv_topi (fun x1009 ex1009 => ?_)
          have ex1009 : x1009 = (((M 9 ((x) - ((1) <<< ((z) &&& 31)) : Int32).toNatClampNeg) - (x1005)) + (32768)) + (M 8 (z : Int32).toNatClampNeg) := ex1009
          have h := letEJ h
          try rw [← ex1009] at h
          refine lv_istore (lv' := [(7, .int (x1009)), (6, .int (x1005)), (5, .int (M 9 ((x) - ((1) <<< ((z) &&& 31)) : Int32).toNatClampNeg)), (0, rf g (1683)), (1, .int (x)), (2, .int (y)), (3, .int (u)), (4, .int (z))]) hx hb dX8_bestFor_94 hl (by decide) rfl (fun ls hl => ?_)
          refine lv_iload_n hx hb dX8_bestFor_96 rfl (lv_at hl 6 rfl) ?_
          refine lv_iload hx hb dX8_bestFor_97 (lv_at hl 0 rfl) ?_
          refine va_mmin hx hb (C.2.2.1.trans hl.1.symm) C.2.2.2.1 (hts _ ml_X8_32) (hts _ st_min) (hts _ in_J9) (hts _ co_min) (Nat.le_of_ble_eq_true rfl) (Nat.le_of_ble_eq_true rfl) (Nat.zero_le _) (Nat.zero_le _) dX8_bestFor_99 ?_
          refine lv_istore_n (lv' := [(3, .int (jmin (u) (x1009))), (7, .int (x1009)), (6, .int (x1005)), (5, .int (M 9 ((x) - ((1) <<< ((z) &&& 31)) : Int32).toNatClampNeg)), (0, rf g (1683)), (1, .int (x)), (2, .int (y)), (4, .int (z))]) hx hb dX8_bestFor_102 rfl hl (by decide) rfl (fun ls hl => ?_)
          refine lv_iinc (v := z + 1) (lv' := [(4, .int (z + 1)), (3, .int (jmin (u) (x1009))), (7, .int (x1009)), (6, .int (x1005)), (5, .int (M 9 ((x) - ((1) <<< ((z) &&& 31)) : Int32).toNatClampNeg)), (0, rf g (1683)), (1, .int (x)), (2, .int (y))]) hx hb dX8_bestFor_103 hl (k := 7) rfl rfl (by decide) rfl (fun ls hl => ?_)
          refine lv_goto (tgt := 13) hx hb dX8_bestFor_106 (by decide) ?_
          exact ih M x y (jmin (u) (x1009)) (z + 1) h _ _ hW hS ls (lv_sub hl [5, 6, 7, 1, 0] rfl)
        · rw [if_neg c1007] at h
          refine lv_iload hx hb dX8_bestFor_65 (lv_at hl 1 rfl) ?_
          refine lv_aload_n hx hb dX8_bestFor_67 rfl (lv_at hl 2 rfl) ?_
          refine rGet (k := 0) C hW (by decide) tm_Pack rfl inX8 (by decide) fl_X8_9 rfl dX8_bestFor_68 ?_
          refine lv_iload hx hb dX8_bestFor_71 (lv_at hl 6 rfl) ?_
          have s1010 : vin (z) 12 := Classical.byContradiction fun q9 => by rw [if_neg q9] at h; cases h
          rw [if_pos s1010] at h
          refine rIld C hW (by decide) tm_weights s1010 dX8_bestFor_73 ?_
          refine lv_iadd hx hb dX8_bestFor_74 ?_
          refine lv_goto (tgt := 94) hx hb dX8_bestFor_75 (by decide) ?_
          refine lv_topi (fun x1011 ex1011 => ?_)
          have ex1011 : x1011 = (M 9 ((x) - ((1) <<< ((z) &&& 31)) : Int32).toNatClampNeg) + (M 8 (z : Int32).toNatClampNeg) := ex1011
          have h := letEJ h
          try rw [← ex1011] at h
          refine lv_istore (lv' := [(7, .int (x1011)), (6, .int (x1005)), (5, .int (M 9 ((x) - ((1) <<< ((z) &&& 31)) : Int32).toNatClampNeg)), (0, rf g (1683)), (1, .int (x)), (2, .int (y)), (3, .int (u)), (4, .int (z))]) hx hb dX8_bestFor_94 hl (by decide) rfl (fun ls hl => ?_)
          refine lv_iload_n hx hb dX8_bestFor_96 rfl (lv_at hl 6 rfl) ?_
          refine lv_iload hx hb dX8_bestFor_97 (lv_at hl 0 rfl) ?_
          refine va_mmin hx hb (C.2.2.1.trans hl.1.symm) C.2.2.2.1 (hts _ ml_X8_32) (hts _ st_min) (hts _ in_J9) (hts _ co_min) (Nat.le_of_ble_eq_true rfl) (Nat.le_of_ble_eq_true rfl) (Nat.zero_le _) (Nat.zero_le _) dX8_bestFor_99 ?_
          refine lv_istore_n (lv' := [(3, .int (jmin (u) (x1011))), (7, .int (x1011)), (6, .int (x1005)), (5, .int (M 9 ((x) - ((1) <<< ((z) &&& 31)) : Int32).toNatClampNeg)), (0, rf g (1683)), (1, .int (x)), (2, .int (y)), (4, .int (z))]) hx hb dX8_bestFor_102 rfl hl (by decide) rfl (fun ls hl => ?_)
          refine lv_iinc (v := z + 1) (lv' := [(4, .int (z + 1)), (3, .int (jmin (u) (x1011))), (7, .int (x1011)), (6, .int (x1005)), (5, .int (M 9 ((x) - ((1) <<< ((z) &&& 31)) : Int32).toNatClampNeg)), (0, rf g (1683)), (1, .int (x)), (2, .int (y))]) hx hb dX8_bestFor_103 hl (k := 7) rfl rfl (by decide) rfl (fun ls hl => ?_)
          refine lv_goto (tgt := 13) hx hb dX8_bestFor_106 (by decide) ?_
          exact ih M x y (jmin (u) (x1011)) (z + 1) h _ _ hW hS ls (lv_sub hl [5, 6, 7, 1, 0] rfl)
set_option maxHeartbeats 4000000 in
set_option maxRecDepth 100000 in
theorem c_X8_bestFor (l : Launch) (g : GD) (M : MM) (x : Int32) (y : Int32) (r : Int32) (M2 : MM) (h : f_X8_bestFor M x y = some (r, M2)) : Met l yX8_bestFor (wm yX8_bestFor cX8_bestFor 8 (some .int)) (RM 1 40) (va_Pc [rf g (1683), .int (x), .int (y)] (WDp g M)) (QQ g (fun v w0 => v = .int r ∧ M2 = w0)) 0 0 (AA g) := by
  refine mkM (by decide +kernel) (Nat.le_of_ble_eq_true rfl) ?_
  intro p e s m below meth c C hr hlk hW hS ls hl
  have hl : lv_has ls 8 [(0, rf g (1683)), (1, .int (x)), (2, .int (y))] := hl
  have hx := C.1
  have hb := C.2.1
  have hts := C.2.2.2.2.1
  unfold f_X8_bestFor at h
  refine lv_ldc hx hb C.2.2.2.1 (C.2.2.2.2.1 _ kc_X8_31) dX8_bestFor_0 ?_
  refine lv_aload_n hx hb dX8_bestFor_2 rfl (lv_at hl 0 rfl) ?_
  refine rGet (k := 2) C hW (by decide) tm_Pack rfl inX8 (by decide) fl_X8_18 rfl dX8_bestFor_3 ?_
  refine lv_iconst (v := 1) hx hb dX8_bestFor_6 (by decide) ?_
  refine lv_iadd hx hb dX8_bestFor_7 ?_
  refine lv_imul hx hb dX8_bestFor_8 ?_
  refine lv_istore_n (lv' := [(3, .int ((32768) * ((M 7 0) + (1)))), (0, rf g (1683)), (1, .int (x)), (2, .int (y))]) hx hb dX8_bestFor_9 rfl hl (by decide) rfl (fun ls hl => ?_)
  refine lv_iconst (v := 0) hx hb dX8_bestFor_10 (by decide) ?_
  refine lv_istore (lv' := [(4, .int (0)), (3, .int ((32768) * ((M 7 0) + (1)))), (0, rf g (1683)), (1, .int (x)), (2, .int (y))]) hx hb dX8_bestFor_11 hl (by decide) rfl (fun ls hl => ?_)
  exact t_X8_bestFor_13 l g    FU M x y ((32768) * ((M 7 0) + (1))) 0 _ _ h C hr hlk _ _ hW hS ls (lv_sub hl [2, 3, 4, 1, 0] rfl)
def lp_X8_fewestWagons_16 (fu : Nat) (M : MM)  (x : Int32) (u : Int32) (z : Int32) : Option (Int32 × MM) := match fu with
  | 0 => none
  | n + 1 => (if (u : Int32) ≤ (z : Int32) then (if vin ((u) - (1)) 4096 then some ((M 9 ((u) - (1) : Int32).toNatClampNeg) / (32768), M) else none) else (bnd2 (f_X8_bestFor M z x) fun r1004 M1005 => (if vin (z) 4096 then (letB (up2 M1005 9 (z : Int32).toNatClampNeg (r1004)) fun M1008 => (lp_X8_fewestWagons_16 n M1008   x u (z + 1))) else none)))
def f_X8_fewestWagons (M : MM) (x : Int32) : Option (Int32 × MM) := (if vin (0) 4096 then (letB (up2 M 9 (0 : Int32).toNatClampNeg (x)) fun M2 => (lp_X8_fewestWagons_16 FU M2   x ((1) <<< ((M 7 0) &&& 31)) 1)) else none)
set_option maxHeartbeats 4000000 in
set_option maxRecDepth 100000 in
theorem t_X8_fewestWagons_16 (l : Launch) (g : GD) {p : Program} {e : Env} {s : State} {m : MethodId} {av : Array Value} {below : List Frame} {meth : Method} {c : Code}  (n : Nat) : ∀ (M : MM) (x : Int32) (u : Int32) (z : Int32) (r : Int32) (M2 : MM), lp_X8_fewestWagons_16 n M   x u z = some (r, M2) → CX p s m av c cX8_fewestWagons 4 RX8 g → meth.sig.returnType = (some .int) → meth.locks = false → ∀ (H : Heap) (locs : List Loc), Wd g M H → sS g s H locs → ∀ ls : Array Slot, lv_has ls 4 [(0, rf g (1683)), (1, .int (x)), (2, .int (u)), (3, .int (z))] → W p l e (RM 2 67) s m av below meth c H locs 0 0 (MQ below (QQ g (fun v w0 => v = .int r ∧ M2 = w0)) av s 0 0 (AA g)) (F0 m 16 ls []) := by
  induction n with
  | zero => intro M x u z r M2 h; cases h
  | succ n ih0 =>
    intro M x u z r M2 h C hr hlk H locs hW hS ls hl
    have ih : ∀ (M : MM) (x : Int32) (u : Int32) (z : Int32), lp_X8_fewestWagons_16 n M   x u z = some (r, M2) → ∀ (H : Heap) (locs : List Loc), Wd g M H → sS g s H locs → ∀ ls : Array Slot, lv_has ls 4 [(0, rf g (1683)), (1, .int (x)), (2, .int (u)), (3, .int (z))] → W p l e (RM 2 67) s m av below meth c H locs 0 0 (MQ below (QQ g (fun v w0 => v = .int r ∧ M2 = w0)) av s 0 0 (AA g)) (F0 m 16 ls []) := fun M x u z h H locs hW hS ls hl => ih0 M x u z r M2 h C hr hlk H locs hW hS ls hl
    unfold lp_X8_fewestWagons_16 at h
    try dsimp only at h
    have hx := C.1
    have hb := C.2.1
    have hts := C.2.2.2.2.1
    refine lv_iload_n hx hb dX8_fewestWagons_16 rfl (lv_at hl 3 rfl) ?_
    refine lv_iload_n hx hb dX8_fewestWagons_17 rfl (lv_at hl 2 rfl) ?_
    refine lv_icmp_ge (tgt := 39) hx hb dX8_fewestWagons_18 (by decide) (fun c1001 => ?_) (fun c1001 => ?_)
    · rw [if_pos c1001] at h
      refine lv_aload_n hx hb dX8_fewestWagons_39 rfl (lv_at hl 0 rfl) ?_
      refine rGet (k := 1) C hW (by decide) tm_Pack rfl inX8 (by decide) fl_X8_15 rfl dX8_fewestWagons_40 ?_
      refine lv_iload_n hx hb dX8_fewestWagons_43 rfl (lv_at hl 2 rfl) ?_
      refine lv_iconst (v := 1) hx hb dX8_fewestWagons_44 (by decide) ?_
      refine lv_isub hx hb dX8_fewestWagons_45 ?_
      have s1002 : vin ((u) - (1)) 4096 := Classical.byContradiction fun q9 => by rw [if_neg q9] at h; cases h
      rw [if_pos s1002] at h
      refine rIld C hW (by decide) tm_best s1002 dX8_fewestWagons_46 ?_
      refine lv_ldc hx hb C.2.2.2.1 (C.2.2.2.2.1 _ kc_X8_31) dX8_fewestWagons_47 ?_
      refine lv_idiv hx hb dX8_fewestWagons_49 (by decide) ?_
      cases h
      exact rI C hr hlk dX8_fewestWagons_50 hW hS ⟨rfl, rfl⟩
    · rw [if_neg c1001] at h
      refine lv_aload_n hx hb dX8_fewestWagons_21 rfl (lv_at hl 0 rfl) ?_
      refine rGet (k := 1) C hW (by decide) tm_Pack rfl inX8 (by decide) fl_X8_15 rfl dX8_fewestWagons_22 ?_
      refine lv_iload_n hx hb dX8_fewestWagons_25 rfl (lv_at hl 3 rfl) ?_
      refine lv_aload_n hx hb dX8_fewestWagons_26 rfl (lv_at hl 0 rfl) ?_
      refine lv_iload_n hx hb dX8_fewestWagons_27 rfl (lv_at hl 3 rfl) ?_
      refine lv_iload_n hx hb dX8_fewestWagons_28 rfl (lv_at hl 1 rfl) ?_
      obtain ⟨r1004, M1005, h1006, h⟩ := bind2 h
      refine cBack C.2.2.2.2.2.2.2.2 (runV (As := [.int (z), .int (x)]) (rest := [.int (z), rf g (1685)]) C hW hS (c_X8_bestFor l g M z x _ _ h1006) kV_X8_bestFor ml_X8_28 (by decide) tm_Pack rfl rfl rfl hl.1 rfl (Nat.le_of_ble_eq_true rfl) ⟨Nat.le_of_ble_eq_true rfl, Nat.le_of_ble_eq_true rfl⟩ ⟨Nat.zero_le _, Nat.zero_le _⟩ dX8_fewestWagons_29) hS (fun v0 w0 H locs hp hW hS => ?_)
      obtain ⟨rfl, rfl⟩ := hp
      have s1007 : vin (z) 4096 := Classical.byContradiction fun q9 => by rw [if_neg q9] at h; cases h
      rw [if_pos s1007] at h
      refine rIst (M' := up2 M1005 9 (z : Int32).toNatClampNeg (r1004)) C hW hS (by decide) tm_best s1007 (UPD_G (by decide) rfl (by rw [tm_best, up2_gr])) dX8_fewestWagons_32 (fun H locs hW hS => ?_)
      have hW : Wd g (up2 M1005 9 (z : Int32).toNatClampNeg (r1004)) H := hW
      have h := letE h
      generalize up2 M1005 9 (z : Int32).toNatClampNeg (r1004) = M1008 at hW h
      refine lv_iinc (v := z + 1) (lv' := [(3, .int (z + 1)), (0, rf g (1683)), (1, .int (x)), (2, .int (u))]) hx hb dX8_fewestWagons_33 hl (k := 3) rfl rfl (by decide) rfl (fun ls hl => ?_)
      refine lv_goto (tgt := 16) hx hb dX8_fewestWagons_36 (by decide) ?_
      exact ih M1008 x u (z + 1) h _ _ hW hS ls (lv_sub hl [1, 2, 3, 0] rfl)
set_option maxHeartbeats 4000000 in
set_option maxRecDepth 100000 in
theorem c_X8_fewestWagons (l : Launch) (g : GD) (M : MM) (x : Int32) (r : Int32) (M2 : MM) (h : f_X8_fewestWagons M x = some (r, M2)) : Met l yX8_fewestWagons (wm yX8_fewestWagons cX8_fewestWagons 4 (some .int)) (RM 2 67) (va_Pc [rf g (1683), .int (x)] (WDp g M)) (QQ g (fun v w0 => v = .int r ∧ M2 = w0)) 0 0 (AA g) := by
  refine mkM (by decide +kernel) (Nat.le_of_ble_eq_true rfl) ?_
  intro p e s m below meth c C hr hlk hW hS ls hl
  have hl : lv_has ls 4 [(0, rf g (1683)), (1, .int (x))] := hl
  have hx := C.1
  have hb := C.2.1
  have hts := C.2.2.2.2.1
  unfold f_X8_fewestWagons at h
  refine lv_iconst (v := 1) hx hb dX8_fewestWagons_0 (by decide) ?_
  refine lv_aload_n hx hb dX8_fewestWagons_1 rfl (lv_at hl 0 rfl) ?_
  refine rGet (k := 2) C hW (by decide) tm_Pack rfl inX8 (by decide) fl_X8_18 rfl dX8_fewestWagons_2 ?_
  refine lv_ishl hx hb dX8_fewestWagons_5 ?_
  refine lv_istore_n (lv' := [(2, .int ((1) <<< ((M 7 0) &&& 31))), (0, rf g (1683)), (1, .int (x))]) hx hb dX8_fewestWagons_6 rfl hl (by decide) rfl (fun ls hl => ?_)
  refine lv_aload_n hx hb dX8_fewestWagons_7 rfl (lv_at hl 1 rfl) ?_
  refine rGet (k := 1) C hW (by decide) tm_Pack rfl inX8 (by decide) fl_X8_15 rfl dX8_fewestWagons_8 ?_
  refine lv_iconst (v := 0) hx hb dX8_fewestWagons_11 (by decide) ?_
  refine lv_iload_n hx hb dX8_fewestWagons_12 rfl (lv_at hl 2 rfl) ?_
  have s1 : vin (0) 4096 := Classical.byContradiction fun q9 => by rw [if_neg q9] at h; cases h
  rw [if_pos s1] at h
  refine rIst (M' := up2 M 9 (0 : Int32).toNatClampNeg (x)) C hW hS (by decide) tm_best s1 (UPD_G (by decide) rfl (by rw [tm_best, up2_gr])) dX8_fewestWagons_13 (fun H locs hW hS => ?_)
  have hW : Wd g (up2 M 9 (0 : Int32).toNatClampNeg (x)) H := hW
  have h := letE h
  generalize up2 M 9 (0 : Int32).toNatClampNeg (x) = M2 at hW h
  refine lv_iconst (v := 1) hx hb dX8_fewestWagons_14 (by decide) ?_
  refine lv_istore_n (lv' := [(3, .int (1)), (2, .int ((1) <<< ((M 7 0) &&& 31))), (0, rf g (1683)), (1, .int (x))]) hx hb dX8_fewestWagons_15 rfl hl (by decide) rfl (fun ls hl => ?_)
  exact t_X8_fewestWagons_16 l g    FU M2 x ((1) <<< ((M 7 0) &&& 31)) 1 _ _ h C hr hlk _ _ hW hS ls (lv_sub hl [2, 3, 1, 0] rfl)
def f_X1_begin (M : MM)  : Option (Unit × MM) := (letB (up2 M 10 0 (0)) fun M1 => (letB (up2 M1 10 6 (0)) fun M2 => (bnd2 (f_J7_fill_53178 M2 0) fun r3 M4 => (letB (up2 M4 10 8 (0)) fun M6 => (letB (up2 M6 10 9 (0)) fun M7 => (letB (up2 M7 10 10 (0)) fun M8 => (letB (up2 M8 10 11 (0)) fun M9 => some ((), M9))))))))
set_option maxHeartbeats 4000000 in
set_option maxRecDepth 100000 in
theorem c_X1_begin (l : Launch) (g : GD) (M : MM)  (r : Unit) (M2 : MM) (h : f_X1_begin M  = some (r, M2)) : Met l yX1_begin (wm yX1_begin cX1_begin 1 none) (RM 1 23) (va_Pc [rf g (1686)] (WDp g M)) (QV g (fun w0 => M2 = w0)) 0 0 (AA g) := by
  refine mkM (by decide +kernel) (Nat.le_of_ble_eq_true rfl) ?_
  intro p e s m below meth c C hr hlk hW hS ls hl
  have hl : lv_has ls 1 [(0, rf g (1686))] := hl
  have hx := C.1
  have hb := C.2.1
  have hts := C.2.2.2.2.1
  unfold f_X1_begin at h
  refine lv_aload_n hx hb dX1_begin_0 rfl (lv_at hl 0 rfl) ?_
  refine lv_iconst (v := 0) hx hb dX1_begin_1 (by decide) ?_
  refine rPut (k := 0) C hW hS (by decide) tm_Read rfl inX1 tyX1_ok nmX1 (by decide) fl_X1_11 rfl (by decide +kernel) (Nat.le_of_ble_eq_true rfl) (upd_Read_expected _) dX1_begin_2 (fun H locs hW hS => ?_)
  have hW : Wd g (up2 M 10 0 (0)) H := hW
  have h := letE h
  generalize up2 M 10 0 (0) = M1 at hW h
  refine lv_aload_n hx hb dX1_begin_5 rfl (lv_at hl 0 rfl) ?_
  refine lv_iconst (v := 0) hx hb dX1_begin_6 (by decide) ?_
  refine rPut (k := 6) C hW hS (by decide) tm_Read rfl inX1 tyX1_ok nmX1 (by decide) fl_X1_36 rfl (by decide +kernel) (Nat.le_of_ble_eq_true rfl) (upd_Read_open _) dX1_begin_7 (fun H locs hW hS => ?_)
  have hW : Wd g (up2 M1 10 6 (0)) H := hW
  have h := letE h
  generalize up2 M1 10 6 (0) = M2 at hW h
  refine lv_aload_n hx hb dX1_begin_10 rfl (lv_at hl 0 rfl) ?_
  refine rGet (k := 7) C hW (by decide) tm_Read rfl inX1 (by decide) fl_X1_39 rfl dX1_begin_11 ?_
  refine lv_iconst (v := 0) hx hb dX1_begin_14 (by decide) ?_
  obtain ⟨r3, M4, h5, h⟩ := bind2 h
  refine cBackV C.2.2.2.2.2.2.2.2 (runS (As := [rf g (1690), .int (0)]) (rest := []) C hW hS (c_J7_fill_53178 l g M2 0 _ _ h5) kS_J7_fill_53178 ml_X1_74 rfl hl.1 rfl (Nat.le_of_ble_eq_true rfl) ⟨Nat.le_of_ble_eq_true rfl, Nat.le_of_ble_eq_true rfl⟩ ⟨Nat.zero_le _, Nat.zero_le _⟩ dX1_begin_15) hS (fun v0 H locs hp hW hS => ?_)
  subst hp
  refine lv_aload_n hx hb dX1_begin_18 rfl (lv_at hl 0 rfl) ?_
  refine lv_iconst (v := 0) hx hb dX1_begin_19 (by decide) ?_
  refine rPut (k := 8) C hW hS (by decide) tm_Read rfl inX1 tyX1_ok nmX1 (by decide) fl_X1_43 rfl (by decide +kernel) (Nat.le_of_ble_eq_true rfl) (upd_Read_bells _) dX1_begin_20 (fun H locs hW hS => ?_)
  have hW : Wd g (up2 M4 10 8 (0)) H := hW
  have h := letE h
  generalize up2 M4 10 8 (0) = M6 at hW h
  refine lv_aload_n hx hb dX1_begin_23 rfl (lv_at hl 0 rfl) ?_
  refine lv_iconst (v := 0) hx hb dX1_begin_24 (by decide) ?_
  refine rPut (k := 9) C hW hS (by decide) tm_Read rfl inX1 tyX1_ok nmX1 (by decide) fl_X1_46 rfl (by decide +kernel) (Nat.le_of_ble_eq_true rfl) (upd_Read_beams _) dX1_begin_25 (fun H locs hW hS => ?_)
  have hW : Wd g (up2 M6 10 9 (0)) H := hW
  have h := letE h
  generalize up2 M6 10 9 (0) = M7 at hW h
  refine lv_aload_n hx hb dX1_begin_28 rfl (lv_at hl 0 rfl) ?_
  refine lv_iconst (v := 0) hx hb dX1_begin_29 (by decide) ?_
  refine rPut (k := 10) C hW hS (by decide) tm_Read rfl inX1 tyX1_ok nmX1 (by decide) fl_X1_49 rfl (by decide +kernel) (Nat.le_of_ble_eq_true rfl) (upd_Read_deepest _) dX1_begin_30 (fun H locs hW hS => ?_)
  have hW : Wd g (up2 M7 10 10 (0)) H := hW
  have h := letE h
  generalize up2 M7 10 10 (0) = M8 at hW h
  refine lv_aload_n hx hb dX1_begin_33 rfl (lv_at hl 0 rfl) ?_
  refine lv_iconst (v := 0) hx hb dX1_begin_34 (by decide) ?_
  refine rPut (k := 11) C hW hS (by decide) tm_Read rfl inX1 tyX1_ok nmX1 (by decide) fl_X1_52 rfl (by decide +kernel) (Nat.le_of_ble_eq_true rfl) (upd_Read_greatestSlant _) dX1_begin_35 (fun H locs hW hS => ?_)
  have hW : Wd g (up2 M8 10 11 (0)) H := hW
  have h := letE h
  generalize up2 M8 10 11 (0) = M9 at hW h
  cases h
  exact rV C hr hlk dX1_begin_38 hW hS rfl
def f_X1_isDigit (M : MM) (x : Int32) : Option (Int32 × MM) := (if (x : Int32) < (48 : Int32) then some (0, M) else (if (57 : Int32) < (x : Int32) then some (0, M) else some (1, M)))
set_option maxHeartbeats 4000000 in
set_option maxRecDepth 100000 in
theorem c_X1_isDigit (l : Launch) (g : GD) (M : MM) (x : Int32) (r : Int32) (M2 : MM) (h : f_X1_isDigit M x = some (r, M2)) : Met l yX1_isDigit (wm yX1_isDigit cX1_isDigit 1 (some .boolean)) (RM 0 0) (va_Pc [.int (x)] (WDp g M)) (QQ g (fun v w0 => v = .int r ∧ M2 = w0 ∧ (r = 0 ∨ r = 1))) 0 0 (AA g) := by
  refine mkM (by decide +kernel) (Nat.le_of_ble_eq_true rfl) ?_
  intro p e s m below meth c C hr hlk hW hS ls hl
  have hl : lv_has ls 1 [(0, .int (x))] := hl
  have hx := C.1
  have hb := C.2.1
  have hts := C.2.2.2.2.1
  unfold f_X1_isDigit at h
  refine lv_iload_n hx hb dX1_isDigit_0 rfl (lv_at hl 0 rfl) ?_
  refine lv_bipush (v := 48) hx hb dX1_isDigit_1 (by decide) ?_
  refine lv_icmp_lt (tgt := 16) hx hb dX1_isDigit_3 (by decide) (fun c1 => ?_) (fun c1 => ?_)
  · rw [if_pos c1] at h
    refine lv_iconst (v := 0) hx hb dX1_isDigit_16 (by decide) ?_
    cases h
    exact rZ C hr hlk dX1_isDigit_17 hW hS (nar01 (Or.inl rfl)) ⟨rfl, rfl, (Or.inl rfl)⟩
  · rw [if_neg c1] at h
    refine lv_iload_n hx hb dX1_isDigit_6 rfl (lv_at hl 0 rfl) ?_
    refine lv_bipush (v := 57) hx hb dX1_isDigit_7 (by decide) ?_
    refine lv_icmp_gt (tgt := 16) hx hb dX1_isDigit_9 (by decide) (fun c2 => ?_) (fun c2 => ?_)
    · rw [if_pos c2] at h
      refine lv_iconst (v := 0) hx hb dX1_isDigit_16 (by decide) ?_
      cases h
      exact rZ C hr hlk dX1_isDigit_17 hW hS (nar01 (Or.inl rfl)) ⟨rfl, rfl, (Or.inl rfl)⟩
    · rw [if_neg c2] at h
      refine lv_iconst (v := 1) hx hb dX1_isDigit_12 (by decide) ?_
      refine lv_goto (tgt := 17) hx hb dX1_isDigit_13 (by decide) ?_
      cases h
      exact rZ C hr hlk dX1_isDigit_17 hW hS (nar01 (Or.inr rfl)) ⟨rfl, rfl, (Or.inr rfl)⟩
def f_X1_digit (M : MM) (x : Int32) : Option (Int32 × MM) := some ((x) - (48), M)
set_option maxHeartbeats 4000000 in
set_option maxRecDepth 100000 in
theorem c_X1_digit (l : Launch) (g : GD) (M : MM) (x : Int32) (r : Int32) (M2 : MM) (h : f_X1_digit M x = some (r, M2)) : Met l yX1_digit (wm yX1_digit cX1_digit 1 (some .int)) (RM 0 0) (va_Pc [.int (x)] (WDp g M)) (QQ g (fun v w0 => v = .int r ∧ M2 = w0)) 0 0 (AA g) := by
  refine mkM (by decide +kernel) (Nat.le_of_ble_eq_true rfl) ?_
  intro p e s m below meth c C hr hlk hW hS ls hl
  have hl : lv_has ls 1 [(0, .int (x))] := hl
  have hx := C.1
  have hb := C.2.1
  have hts := C.2.2.2.2.1
  unfold f_X1_digit at h
  refine lv_iload_n hx hb dX1_digit_0 rfl (lv_at hl 0 rfl) ?_
  refine lv_bipush (v := 48) hx hb dX1_digit_1 (by decide) ?_
  refine lv_isub hx hb dX1_digit_3 ?_
  cases h
  exact rI C hr hlk dX1_digit_4 hW hS ⟨rfl, rfl⟩
def f_X1_endFrame (M : MM)  : Option (Unit × MM) := (if (1 : Int32) ≤ (M 10 6 : Int32) then (if vin ((M 10 6) - (1)) 5 then (if (M 12 ((M 10 6) - (1) : Int32).toNatClampNeg : Int32) = 0 then (letB (up2 M 10 0 (1)) fun M4 => some ((), M4)) else (letB (up2 M 10 0 (2)) fun M5 => some ((), M5))) else none) else (letB (up2 M 10 0 (3)) fun M6 => some ((), M6)))
set_option maxHeartbeats 4000000 in
set_option maxRecDepth 100000 in
theorem c_X1_endFrame (l : Launch) (g : GD) (M : MM)  (r : Unit) (M2 : MM) (h : f_X1_endFrame M  = some (r, M2)) : Met l yX1_endFrame (wm yX1_endFrame cX1_endFrame 1 none) (RM 0 0) (va_Pc [rf g (1686)] (WDp g M)) (QV g (fun w0 => M2 = w0)) 0 0 (AA g) := by
  refine mkM (by decide +kernel) (Nat.le_of_ble_eq_true rfl) ?_
  intro p e s m below meth c C hr hlk hW hS ls hl
  have hl : lv_has ls 1 [(0, rf g (1686))] := hl
  have hx := C.1
  have hb := C.2.1
  have hts := C.2.2.2.2.1
  unfold f_X1_endFrame at h
  refine lv_aload_n hx hb dX1_endFrame_0 rfl (lv_at hl 0 rfl) ?_
  refine rGet (k := 6) C hW (by decide) tm_Read rfl inX1 (by decide) fl_X1_36 rfl dX1_endFrame_1 ?_
  refine lv_iconst (v := 1) hx hb dX1_endFrame_4 (by decide) ?_
  refine lv_icmp_ge (tgt := 16) hx hb dX1_endFrame_5 (by decide) (fun c1 => ?_) (fun c1 => ?_)
  · rw [if_pos c1] at h
    refine lv_aload_n hx hb dX1_endFrame_16 rfl (lv_at hl 0 rfl) ?_
    refine lv_aload_n hx hb dX1_endFrame_17 rfl (lv_at hl 0 rfl) ?_
    refine rGet (k := 5) C hW (by decide) tm_Read rfl inX1 (by decide) fl_X1_32 rfl dX1_endFrame_18 ?_
    refine lv_aload_n hx hb dX1_endFrame_21 rfl (lv_at hl 0 rfl) ?_
    refine rGet (k := 6) C hW (by decide) tm_Read rfl inX1 (by decide) fl_X1_36 rfl dX1_endFrame_22 ?_
    refine lv_iconst (v := 1) hx hb dX1_endFrame_25 (by decide) ?_
    refine lv_isub hx hb dX1_endFrame_26 ?_
    have s2 : vin ((M 10 6) - (1)) 5 := Classical.byContradiction fun q9 => by rw [if_neg q9] at h; cases h
    rw [if_pos s2] at h
    refine rZld C hW (by decide) tm_behind s2 dX1_endFrame_27 ?_
    refine lv_if_eq (tgt := 35) hx hb dX1_endFrame_28 (by decide) (fun c3 => ?_) (fun c3 => ?_)
    · rw [if_pos c3] at h
      refine lv_iconst (v := 1) hx hb dX1_endFrame_35 (by decide) ?_
      refine rPut (k := 0) C hW hS (by decide) tm_Read rfl inX1 tyX1_ok nmX1 (by decide) fl_X1_11 rfl (by decide +kernel) (Nat.le_of_ble_eq_true rfl) (upd_Read_expected _) dX1_endFrame_36 (fun H locs hW hS => ?_)
      have hW : Wd g (up2 M 10 0 (1)) H := hW
      have h := letE h
      generalize up2 M 10 0 (1) = M4 at hW h
      cases h
      exact rV C hr hlk dX1_endFrame_39 hW hS rfl
    · rw [if_neg c3] at h
      refine lv_iconst (v := 2) hx hb dX1_endFrame_31 (by decide) ?_
      refine lv_goto (tgt := 36) hx hb dX1_endFrame_32 (by decide) ?_
      refine rPut (k := 0) C hW hS (by decide) tm_Read rfl inX1 tyX1_ok nmX1 (by decide) fl_X1_11 rfl (by decide +kernel) (Nat.le_of_ble_eq_true rfl) (upd_Read_expected _) dX1_endFrame_36 (fun H locs hW hS => ?_)
      have hW : Wd g (up2 M 10 0 (2)) H := hW
      have h := letE h
      generalize up2 M 10 0 (2) = M5 at hW h
      cases h
      exact rV C hr hlk dX1_endFrame_39 hW hS rfl
  · rw [if_neg c1] at h
    refine lv_aload_n hx hb dX1_endFrame_8 rfl (lv_at hl 0 rfl) ?_
    refine lv_iconst (v := 3) hx hb dX1_endFrame_9 (by decide) ?_
    refine rPut (k := 0) C hW hS (by decide) tm_Read rfl inX1 tyX1_ok nmX1 (by decide) fl_X1_11 rfl (by decide +kernel) (Nat.le_of_ble_eq_true rfl) (upd_Read_expected _) dX1_endFrame_10 (fun H locs hW hS => ?_)
    have hW : Wd g (up2 M 10 0 (3)) H := hW
    have h := letE h
    generalize up2 M 10 0 (3) = M6 at hW h
    refine lv_goto (tgt := 39) hx hb dX1_endFrame_13 (by decide) ?_
    cases h
    exact rV C hr hlk dX1_endFrame_39 hW hS rfl
def f_X1_readBell (M : MM) (k : Nat) (x : Int32) : Option (Int32 × MM) := (if (M 10 0 : Int32) = 0 then (bnd2 (f_X9_bellAt M k x) fun r2 M3 => optE r2 (some (2, M3)) (fun j5 => (bnd2 (f_X0_remains M3 k j5) fun r6 M7 => (if (r6 : Int32) = 0 then some (2, M7) else (if vin (x) 100 then (if (M7 13 (x : Int32).toNatClampNeg : Int32) = 0 then (if vin (x) 100 then (letB (up2 M7 13 (x : Int32).toNatClampNeg (1)) fun M13 => (letB (up2 M13 10 8 ((M13 10 8) + (1))) fun M14 => (bnd2 (f_X6_weight M14 k (54 + 8 * j5)) fun r15 M16 => (bnd2 (f_X4_hangBell M16 5 r15) fun r18 M19 => (bnd2 (f_X1_endFrame M19 ) fun r21 M22 => some (0, M22)))))) else none) else some (3, M7)) else none))))) else some (1, M))
set_option maxHeartbeats 4000000 in
set_option maxRecDepth 100000 in
theorem c_X1_readBell (l : Launch) (g : GD) (M : MM) (k : Nat) (x : Int32) (hk : k < 5) (r : Int32) (M2 : MM) (h : f_X1_readBell M k x = some (r, M2)) : Met l yX1_readBell (wm yX1_readBell cX1_readBell 4 (some .int)) (RM 2 43) (va_Pc [rf g (1686), .int (x), rf g (wB k)] (WDp g M)) (QQ g (fun v w0 => v = .int r ∧ M2 = w0)) 0 0 (AA g) := by
  refine mkM (by decide +kernel) (Nat.le_of_ble_eq_true rfl) ?_
  intro p e s m below meth c C hr hlk hW hS ls hl
  have hl : lv_has ls 4 [(0, rf g (1686)), (1, .int (x)), (2, rf g (wB k))] := hl
  have hx := C.1
  have hb := C.2.1
  have hts := C.2.2.2.2.1
  unfold f_X1_readBell at h
  refine lv_aload_n hx hb dX1_readBell_0 rfl (lv_at hl 0 rfl) ?_
  refine rGet (k := 0) C hW (by decide) tm_Read rfl inX1 (by decide) fl_X1_11 rfl dX1_readBell_1 ?_
  refine lv_if_eq (tgt := 9) hx hb dX1_readBell_4 (by decide) (fun c1 => ?_) (fun c1 => ?_)
  · rw [if_pos c1] at h
    refine lv_aload_n hx hb dX1_readBell_9 rfl (lv_at hl 2 rfl) ?_
    refine lv_iload_n hx hb dX1_readBell_10 rfl (lv_at hl 1 rfl) ?_
    obtain ⟨r2, M3, h4, h⟩ := bind2 h
    refine cBack C.2.2.2.2.2.2.2.2 (runV (As := [.int (x)]) (rest := []) C hW hS (c_X9_bellAt l g M k x hk _ _ h4) kV_X9_bellAt ml_X1_90 (wB_lt (r := 0) hk (by decide)) (tm_Works0 hk) rfl rfl rfl hl.1 rfl (Nat.le_of_ble_eq_true rfl) ⟨Nat.le_of_ble_eq_true rfl, Nat.le_of_ble_eq_true rfl⟩ ⟨Nat.zero_le _, Nat.zero_le _⟩ dX1_readBell_11) hS (fun v0 w0 H locs hp hW hS => ?_)
    obtain ⟨rfl, rfl, br2⟩ := hp
    rcases r2 with _ | j5
    · have h := optN h
      refine rAstNn (lv' := [(3, .null), (0, rf g (1686)), (1, .int (x)), (2, rf g (wB k))]) C dX1_readBell_14 rfl hl (by decide) rfl (fun ls hl => ?_)
      refine rAldNn C dX1_readBell_15 rfl (lv_at hl 0 rfl) ?_
      refine lv_ifnullN (tgt := 26) hx hb dX1_readBell_16 (by decide) ?_
      refine lv_iconst (v := 2) hx hb dX1_readBell_26 (by decide) ?_
      cases h
      exact rI C hr hlk dX1_readBell_27 hW hS ⟨rfl, rfl⟩
    · have h := optS h
      have hj5 := br2 j5 rfl
      refine lv_astore_n (lv' := [(3, rf g (wB k + (36 + 2 * j5))), (0, rf g (1686)), (1, .int (x)), (2, rf g (wB k))]) hx hb dX1_readBell_14 rfl hl (by decide) rfl (fun ls hl => ?_)
      refine lv_aload_n hx hb dX1_readBell_15 rfl (lv_at hl 0 rfl) ?_
      refine lv_ifnull hx hb dX1_readBell_16 ?_
      refine lv_aload_n hx hb dX1_readBell_19 rfl (lv_at hl 0 rfl) ?_
      obtain ⟨r6, M7, h8, h⟩ := bind2 h
      refine cBack C.2.2.2.2.2.2.2.2 (runV (As := []) (rest := []) C hW hS (c_X0_remains l g M3 k j5 hk hj5 _ _ h8) kV_X0_remains ml_X1_96 (wB_lt hk (by have := hj5; omega)) (tm_Bell hk hj5) rfl rfl rfl hl.1 rfl (Nat.le_of_ble_eq_true rfl) ⟨Nat.le_of_ble_eq_true rfl, Nat.le_of_ble_eq_true rfl⟩ ⟨Nat.zero_le _, Nat.zero_le _⟩ dX1_readBell_20) hS (fun v0 w0 H locs hp hW hS => ?_)
      obtain ⟨rfl, rfl, zr6⟩ := hp
      refine lv_if_ne (tgt := 28) hx hb dX1_readBell_23 (by decide) (fun c9 => ?_) (fun c9 => ?_)
      · rw [if_neg c9] at h
        refine lv_aload_n hx hb dX1_readBell_28 rfl (lv_at hl 1 rfl) ?_
        refine rGet (k := 7) C hW (by decide) tm_Read rfl inX1 (by decide) fl_X1_39 rfl dX1_readBell_29 ?_
        refine lv_iload_n hx hb dX1_readBell_32 rfl (lv_at hl 2 rfl) ?_
        have s10 : vin (x) 100 := Classical.byContradiction fun q9 => by rw [if_neg q9] at h; cases h
        rw [if_pos s10] at h
        refine rIld C hW (by decide) tm_hangs s10 dX1_readBell_33 ?_
        refine lv_if_eq (tgt := 39) hx hb dX1_readBell_34 (by decide) (fun c11 => ?_) (fun c11 => ?_)
        · rw [if_pos c11] at h
          refine lv_aload_n hx hb dX1_readBell_39 rfl (lv_at hl 1 rfl) ?_
          refine rGet (k := 7) C hW (by decide) tm_Read rfl inX1 (by decide) fl_X1_39 rfl dX1_readBell_40 ?_
          refine lv_iload_n hx hb dX1_readBell_43 rfl (lv_at hl 2 rfl) ?_
          refine lv_iconst (v := 1) hx hb dX1_readBell_44 (by decide) ?_
          have s12 : vin (x) 100 := Classical.byContradiction fun q9 => by rw [if_neg q9] at h; cases h
          rw [if_pos s12] at h
          refine rIst (M' := up2 M7 13 (x : Int32).toNatClampNeg (1)) C hW hS (by decide) tm_hangs s12 (UPD_G (by decide) rfl (by rw [tm_hangs, up2_gr])) dX1_readBell_45 (fun H locs hW hS => ?_)
          have hW : Wd g (up2 M7 13 (x : Int32).toNatClampNeg (1)) H := hW
          have h := letE h
          generalize up2 M7 13 (x : Int32).toNatClampNeg (1) = M13 at hW h
          refine lv_aload_n hx hb dX1_readBell_46 rfl (lv_at hl 1 rfl) ?_
          refine lv_dup hx hb dX1_readBell_47 rfl ?_
          refine rGet (k := 8) C hW (by decide) tm_Read rfl inX1 (by decide) fl_X1_43 rfl dX1_readBell_48 ?_
          refine lv_iconst (v := 1) hx hb dX1_readBell_51 (by decide) ?_
          refine lv_iadd hx hb dX1_readBell_52 ?_
          refine rPut (k := 8) C hW hS (by decide) tm_Read rfl inX1 tyX1_ok nmX1 (by decide) fl_X1_43 rfl (by decide +kernel) (Nat.le_of_ble_eq_true rfl) (upd_Read_bells _) dX1_readBell_53 (fun H locs hW hS => ?_)
          have hW : Wd g (up2 M13 10 8 ((M13 10 8) + (1))) H := hW
          have h := letE h
          generalize up2 M13 10 8 ((M13 10 8) + (1)) = M14 at hW h
          refine lv_aload_n hx hb dX1_readBell_56 rfl (lv_at hl 1 rfl) ?_
          refine rGet (k := 3) C hW (by decide) tm_Read rfl inX1 (by decide) fl_X1_24 rfl dX1_readBell_57 ?_
          refine lv_aload_n hx hb dX1_readBell_60 rfl (lv_at hl 0 rfl) ?_
          refine rGetN (k := 0) C hW (wB_lt hk (by have := hj5; omega)) (tm_Bell hk hj5) rfl inX0 (by decide) fl_X1_102 rfl dX1_readBell_61 ?_
          obtain ⟨r15, M16, h17, h⟩ := bind2 h
          refine cBack C.2.2.2.2.2.2.2.2 (runV (As := []) (rest := [rf g (1687)]) C hW hS (c_X6_weight l g M14 (wB k + (37 + 2 * j5)) k (54 + 8 * j5) (MX_bell hk hj5) _ _ h17) kV_X6_weight ml_X1_106 (MX_bell hk hj5).lt (MX_bell hk hj5).cel rfl rfl rfl hl.1 rfl (Nat.le_of_ble_eq_true rfl) ⟨Nat.le_of_ble_eq_true rfl, Nat.le_of_ble_eq_true rfl⟩ ⟨Nat.zero_le _, Nat.zero_le _⟩ dX1_readBell_64) hS (fun v0 w0 H locs hp hW hS => ?_)
          obtain ⟨rfl, rfl⟩ := hp
          obtain ⟨r18, M19, h20, h⟩ := bind2 h
          refine cBackV C.2.2.2.2.2.2.2.2 (runV (As := [.int (r15)]) (rest := []) C hW hS (c_X4_hangBell l g M16 1687 5 r15 LD_latest _ _ h20) kV_X4_hangBell ml_X1_111 LD_latest.lt LD_latest.cel rfl rfl rfl hl.1 rfl (Nat.le_of_ble_eq_true rfl) ⟨Nat.le_of_ble_eq_true rfl, Nat.le_of_ble_eq_true rfl⟩ ⟨Nat.zero_le _, Nat.zero_le _⟩ dX1_readBell_67) hS (fun v0 H locs hp hW hS => ?_)
          subst hp
          refine lv_aload_n hx hb dX1_readBell_70 rfl (lv_at hl 1 rfl) ?_
          obtain ⟨r21, M22, h23, h⟩ := bind2 h
          refine cBackV C.2.2.2.2.2.2.2.2 (runV (As := []) (rest := []) C hW hS (c_X1_endFrame l g M19  _ _ h23) kV_X1_endFrame ml_X1_115 (by decide) tm_Read rfl rfl rfl hl.1 rfl (Nat.le_of_ble_eq_true rfl) ⟨Nat.le_of_ble_eq_true rfl, Nat.le_of_ble_eq_true rfl⟩ ⟨Nat.zero_le _, Nat.zero_le _⟩ dX1_readBell_71) hS (fun v0 H locs hp hW hS => ?_)
          subst hp
          refine lv_iconst (v := 0) hx hb dX1_readBell_74 (by decide) ?_
          cases h
          exact rI C hr hlk dX1_readBell_75 hW hS ⟨rfl, rfl⟩
        · rw [if_neg c11] at h
          refine lv_iconst (v := 3) hx hb dX1_readBell_37 (by decide) ?_
          cases h
          exact rI C hr hlk dX1_readBell_38 hW hS ⟨rfl, rfl⟩
      · rw [if_pos c9] at h
        refine lv_iconst (v := 2) hx hb dX1_readBell_26 (by decide) ?_
        cases h
        exact rI C hr hlk dX1_readBell_27 hW hS ⟨rfl, rfl⟩
  · rw [if_neg c1] at h
    refine lv_iconst (v := 1) hx hb dX1_readBell_7 (by decide) ?_
    cases h
    exact rI C hr hlk dX1_readBell_8 hW hS ⟨rfl, rfl⟩
def f_X1_openBeam (M : MM)  : Option (Int32 × MM) := (if (M 10 0 : Int32) = 0 then (if (M 10 6 : Int32) < (5 : Int32) then (if vin (M 10 6) 5 then (letB (up2 M 12 (M 10 6 : Int32).toNatClampNeg (vp_nar .boolean (0))) fun M4 => (letB (up2 M4 10 6 ((M4 10 6) + (1))) fun M5 => (letB (up2 M5 10 9 ((M5 10 9) + (1))) fun M6 => (letB (up2 M6 10 10 (jmax (M6 10 10) (M6 10 6))) fun M7 => some (0, M7))))) else none) else some (1, M)) else some (1, M))
set_option maxHeartbeats 4000000 in
set_option maxRecDepth 100000 in
theorem c_X1_openBeam (l : Launch) (g : GD) (M : MM)  (r : Int32) (M2 : MM) (h : f_X1_openBeam M  = some (r, M2)) : Met l yX1_openBeam (wm yX1_openBeam cX1_openBeam 1 (some .int)) (RM 1 40) (va_Pc [rf g (1686)] (WDp g M)) (QQ g (fun v w0 => v = .int r ∧ M2 = w0)) 0 0 (AA g) := by
  refine mkM (by decide +kernel) (Nat.le_of_ble_eq_true rfl) ?_
  intro p e s m below meth c C hr hlk hW hS ls hl
  have hl : lv_has ls 1 [(0, rf g (1686))] := hl
  have hx := C.1
  have hb := C.2.1
  have hts := C.2.2.2.2.1
  unfold f_X1_openBeam at h
  refine lv_aload_n hx hb dX1_openBeam_0 rfl (lv_at hl 0 rfl) ?_
  refine rGet (k := 0) C hW (by decide) tm_Read rfl inX1 (by decide) fl_X1_11 rfl dX1_openBeam_1 ?_
  refine lv_if_ne (tgt := 15) hx hb dX1_openBeam_4 (by decide) (fun c1 => ?_) (fun c1 => ?_)
  · rw [if_neg c1] at h
    refine lv_iconst (v := 1) hx hb dX1_openBeam_15 (by decide) ?_
    cases h
    exact rI C hr hlk dX1_openBeam_16 hW hS ⟨rfl, rfl⟩
  · rw [if_pos c1] at h
    refine lv_aload_n hx hb dX1_openBeam_7 rfl (lv_at hl 0 rfl) ?_
    refine rGet (k := 6) C hW (by decide) tm_Read rfl inX1 (by decide) fl_X1_36 rfl dX1_openBeam_8 ?_
    refine lv_iconst (v := 5) hx hb dX1_openBeam_11 (by decide) ?_
    refine lv_icmp_lt (tgt := 17) hx hb dX1_openBeam_12 (by decide) (fun c2 => ?_) (fun c2 => ?_)
    · rw [if_pos c2] at h
      refine lv_aload_n hx hb dX1_openBeam_17 rfl (lv_at hl 0 rfl) ?_
      refine rGet (k := 5) C hW (by decide) tm_Read rfl inX1 (by decide) fl_X1_32 rfl dX1_openBeam_18 ?_
      refine lv_aload_n hx hb dX1_openBeam_21 rfl (lv_at hl 0 rfl) ?_
      refine rGet (k := 6) C hW (by decide) tm_Read rfl inX1 (by decide) fl_X1_36 rfl dX1_openBeam_22 ?_
      refine lv_iconst (v := 0) hx hb dX1_openBeam_25 (by decide) ?_
      have s3 : vin (M 10 6) 5 := Classical.byContradiction fun q9 => by rw [if_neg q9] at h; cases h
      rw [if_pos s3] at h
      refine rZst (M' := up2 M 12 (M 10 6 : Int32).toNatClampNeg (vp_nar .boolean (0))) C hW hS (by decide) tm_behind s3 (UPD_G (by decide) rfl (by rw [tm_behind, up2_gr])) dX1_openBeam_26 (fun H locs hW hS => ?_)
      have hW : Wd g (up2 M 12 (M 10 6 : Int32).toNatClampNeg (vp_nar .boolean (0))) H := hW
      have h := letE h
      generalize up2 M 12 (M 10 6 : Int32).toNatClampNeg (vp_nar .boolean (0)) = M4 at hW h
      refine lv_aload_n hx hb dX1_openBeam_27 rfl (lv_at hl 0 rfl) ?_
      refine lv_dup hx hb dX1_openBeam_28 rfl ?_
      refine rGet (k := 6) C hW (by decide) tm_Read rfl inX1 (by decide) fl_X1_36 rfl dX1_openBeam_29 ?_
      refine lv_iconst (v := 1) hx hb dX1_openBeam_32 (by decide) ?_
      refine lv_iadd hx hb dX1_openBeam_33 ?_
      refine rPut (k := 6) C hW hS (by decide) tm_Read rfl inX1 tyX1_ok nmX1 (by decide) fl_X1_36 rfl (by decide +kernel) (Nat.le_of_ble_eq_true rfl) (upd_Read_open _) dX1_openBeam_34 (fun H locs hW hS => ?_)
      have hW : Wd g (up2 M4 10 6 ((M4 10 6) + (1))) H := hW
      have h := letE h
      generalize up2 M4 10 6 ((M4 10 6) + (1)) = M5 at hW h
      refine lv_aload_n hx hb dX1_openBeam_37 rfl (lv_at hl 0 rfl) ?_
      refine lv_dup hx hb dX1_openBeam_38 rfl ?_
      refine rGet (k := 9) C hW (by decide) tm_Read rfl inX1 (by decide) fl_X1_46 rfl dX1_openBeam_39 ?_
      refine lv_iconst (v := 1) hx hb dX1_openBeam_42 (by decide) ?_
      refine lv_iadd hx hb dX1_openBeam_43 ?_
      refine rPut (k := 9) C hW hS (by decide) tm_Read rfl inX1 tyX1_ok nmX1 (by decide) fl_X1_46 rfl (by decide +kernel) (Nat.le_of_ble_eq_true rfl) (upd_Read_beams _) dX1_openBeam_44 (fun H locs hW hS => ?_)
      have hW : Wd g (up2 M5 10 9 ((M5 10 9) + (1))) H := hW
      have h := letE h
      generalize up2 M5 10 9 ((M5 10 9) + (1)) = M6 at hW h
      refine lv_aload_n hx hb dX1_openBeam_47 rfl (lv_at hl 0 rfl) ?_
      refine lv_aload_n hx hb dX1_openBeam_48 rfl (lv_at hl 0 rfl) ?_
      refine rGet (k := 10) C hW (by decide) tm_Read rfl inX1 (by decide) fl_X1_49 rfl dX1_openBeam_49 ?_
      refine lv_aload_n hx hb dX1_openBeam_52 rfl (lv_at hl 0 rfl) ?_
      refine rGet (k := 6) C hW (by decide) tm_Read rfl inX1 (by decide) fl_X1_36 rfl dX1_openBeam_53 ?_
      refine va_mmax hx hb (C.2.2.1.trans hl.1.symm) C.2.2.2.1 (hts _ ml_X1_118) (hts _ st_max) (hts _ in_J9) (hts _ co_max) (Nat.le_of_ble_eq_true rfl) (Nat.le_of_ble_eq_true rfl) (Nat.zero_le _) (Nat.zero_le _) dX1_openBeam_56 ?_
      refine rPut (k := 10) C hW hS (by decide) tm_Read rfl inX1 tyX1_ok nmX1 (by decide) fl_X1_49 rfl (by decide +kernel) (Nat.le_of_ble_eq_true rfl) (upd_Read_deepest _) dX1_openBeam_59 (fun H locs hW hS => ?_)
      have hW : Wd g (up2 M6 10 10 (jmax (M6 10 10) (M6 10 6))) H := hW
      have h := letE h
      generalize up2 M6 10 10 (jmax (M6 10 10) (M6 10 6)) = M7 at hW h
      refine lv_iconst (v := 0) hx hb dX1_openBeam_62 (by decide) ?_
      cases h
      exact rI C hr hlk dX1_openBeam_63 hW hS ⟨rfl, rfl⟩
    · rw [if_neg c2] at h
      refine lv_iconst (v := 1) hx hb dX1_openBeam_15 (by decide) ?_
      cases h
      exact rI C hr hlk dX1_openBeam_16 hW hS ⟨rfl, rfl⟩
def f_X1_passComma (M : MM)  : Option (Int32 × MM) := (if (M 10 0 : Int32) = (1 : Int32) then (if (1 : Int32) ≤ (M 10 6 : Int32) then (if vin ((M 10 6) - (1)) 5 then (bnd2 (f_X4_copyFrom M (((M 10 6) - (1) : Int32).toNatClampNeg) 5) fun r4 M5 => (if vin ((M5 10 6) - (1)) 5 then (letB (up2 M5 12 ((M5 10 6) - (1) : Int32).toNatClampNeg (vp_nar .boolean (1))) fun M8 => (letB (up2 M8 10 0 (0)) fun M9 => some (0, M9))) else none)) else none) else some (1, M)) else some (1, M))
set_option maxHeartbeats 4000000 in
set_option maxRecDepth 100000 in
theorem c_X1_passComma (l : Launch) (g : GD) (M : MM)  (r : Int32) (M2 : MM) (h : f_X1_passComma M  = some (r, M2)) : Met l yX1_passComma (wm yX1_passComma cX1_passComma 1 (some .int)) (RM 1 21) (va_Pc [rf g (1686)] (WDp g M)) (QQ g (fun v w0 => v = .int r ∧ M2 = w0)) 0 0 (AA g) := by
  refine mkM (by decide +kernel) (Nat.le_of_ble_eq_true rfl) ?_
  intro p e s m below meth c C hr hlk hW hS ls hl
  have hl : lv_has ls 1 [(0, rf g (1686))] := hl
  have hx := C.1
  have hb := C.2.1
  have hts := C.2.2.2.2.1
  unfold f_X1_passComma at h
  refine lv_aload_n hx hb dX1_passComma_0 rfl (lv_at hl 0 rfl) ?_
  refine rGet (k := 0) C hW (by decide) tm_Read rfl inX1 (by decide) fl_X1_11 rfl dX1_passComma_1 ?_
  refine lv_iconst (v := 1) hx hb dX1_passComma_4 (by decide) ?_
  refine lv_icmp_ne (tgt := 16) hx hb dX1_passComma_5 (by decide) (fun c1 => ?_) (fun c1 => ?_)
  · rw [if_neg c1] at h
    refine lv_iconst (v := 1) hx hb dX1_passComma_16 (by decide) ?_
    cases h
    exact rI C hr hlk dX1_passComma_17 hW hS ⟨rfl, rfl⟩
  · rw [if_pos c1] at h
    refine lv_aload_n hx hb dX1_passComma_8 rfl (lv_at hl 0 rfl) ?_
    refine rGet (k := 6) C hW (by decide) tm_Read rfl inX1 (by decide) fl_X1_36 rfl dX1_passComma_9 ?_
    refine lv_iconst (v := 1) hx hb dX1_passComma_12 (by decide) ?_
    refine lv_icmp_ge (tgt := 18) hx hb dX1_passComma_13 (by decide) (fun c2 => ?_) (fun c2 => ?_)
    · rw [if_pos c2] at h
      refine lv_aload_n hx hb dX1_passComma_18 rfl (lv_at hl 0 rfl) ?_
      refine rGet (k := 4) C hW (by decide) tm_Read rfl inX1 (by decide) fl_X1_28 rfl dX1_passComma_19 ?_
      refine lv_aload_n hx hb dX1_passComma_22 rfl (lv_at hl 0 rfl) ?_
      refine rGet (k := 6) C hW (by decide) tm_Read rfl inX1 (by decide) fl_X1_36 rfl dX1_passComma_23 ?_
      refine lv_iconst (v := 1) hx hb dX1_passComma_26 (by decide) ?_
      refine lv_isub hx hb dX1_passComma_27 ?_
      have s3 : vin ((M 10 6) - (1)) 5 := Classical.byContradiction fun q9 => by rw [if_neg q9] at h; cases h
      rw [if_pos s3] at h
      refine rRld (j := 7) C hW (by decide) tm_firsts rfl s3 dX1_passComma_28 ?_
      refine lv_aload_n hx hb dX1_passComma_29 rfl (lv_at hl 0 rfl) ?_
      refine rGet (k := 3) C hW (by decide) tm_Read rfl inX1 (by decide) fl_X1_24 rfl dX1_passComma_30 ?_
      obtain ⟨r4, M5, h6, h⟩ := bind2 h
      refine cBackV C.2.2.2.2.2.2.2.2 (runV (As := [rf g (1687)]) (rest := []) C hW hS (c_X4_copyFrom l g M (1691 + ((M 10 6) - (1) : Int32).toNatClampNeg) (((M 10 6) - (1) : Int32).toNatClampNeg) 1687 5 (LD_first (vp_lt s3)) LD_latest _ _ h6) kV_X4_copyFrom ml_X1_124 (LD_first (vp_lt s3)).lt (LD_first (vp_lt s3)).cel rfl rfl rfl hl.1 rfl (Nat.le_of_ble_eq_true rfl) ⟨Nat.le_of_ble_eq_true rfl, Nat.le_of_ble_eq_true rfl⟩ ⟨Nat.zero_le _, Nat.zero_le _⟩ dX1_passComma_33) hS (fun v0 H locs hp hW hS => ?_)
      subst hp
      refine lv_aload_n hx hb dX1_passComma_36 rfl (lv_at hl 0 rfl) ?_
      refine rGet (k := 5) C hW (by decide) tm_Read rfl inX1 (by decide) fl_X1_32 rfl dX1_passComma_37 ?_
      refine lv_aload_n hx hb dX1_passComma_40 rfl (lv_at hl 0 rfl) ?_
      refine rGet (k := 6) C hW (by decide) tm_Read rfl inX1 (by decide) fl_X1_36 rfl dX1_passComma_41 ?_
      refine lv_iconst (v := 1) hx hb dX1_passComma_44 (by decide) ?_
      refine lv_isub hx hb dX1_passComma_45 ?_
      refine lv_iconst (v := 1) hx hb dX1_passComma_46 (by decide) ?_
      have s7 : vin ((M5 10 6) - (1)) 5 := Classical.byContradiction fun q9 => by rw [if_neg q9] at h; cases h
      rw [if_pos s7] at h
      refine rZst (M' := up2 M5 12 ((M5 10 6) - (1) : Int32).toNatClampNeg (vp_nar .boolean (1))) C hW hS (by decide) tm_behind s7 (UPD_G (by decide) rfl (by rw [tm_behind, up2_gr])) dX1_passComma_47 (fun H locs hW hS => ?_)
      have hW : Wd g (up2 M5 12 ((M5 10 6) - (1) : Int32).toNatClampNeg (vp_nar .boolean (1))) H := hW
      have h := letE h
      generalize up2 M5 12 ((M5 10 6) - (1) : Int32).toNatClampNeg (vp_nar .boolean (1)) = M8 at hW h
      refine lv_aload_n hx hb dX1_passComma_48 rfl (lv_at hl 0 rfl) ?_
      refine lv_iconst (v := 0) hx hb dX1_passComma_49 (by decide) ?_
      refine rPut (k := 0) C hW hS (by decide) tm_Read rfl inX1 tyX1_ok nmX1 (by decide) fl_X1_11 rfl (by decide +kernel) (Nat.le_of_ble_eq_true rfl) (upd_Read_expected _) dX1_passComma_50 (fun H locs hW hS => ?_)
      have hW : Wd g (up2 M8 10 0 (0)) H := hW
      have h := letE h
      generalize up2 M8 10 0 (0) = M9 at hW h
      refine lv_iconst (v := 0) hx hb dX1_passComma_53 (by decide) ?_
      cases h
      exact rI C hr hlk dX1_passComma_54 hW hS ⟨rfl, rfl⟩
    · rw [if_neg c2] at h
      refine lv_iconst (v := 1) hx hb dX1_passComma_16 (by decide) ?_
      cases h
      exact rI C hr hlk dX1_passComma_17 hW hS ⟨rfl, rfl⟩
def f_X1_closeBeam (M : MM)  : Option (Int32 × MM) := (if (M 10 0 : Int32) = (2 : Int32) then (if (1 : Int32) ≤ (M 10 6 : Int32) then (if vin ((M 10 6) - (1)) 5 then (letB (up2 M 10 11 (jmax (M 10 11) (jabs ((M (70 + ((M 10 6) - (1) : Int32).toNatClampNeg) 0) - (M (70 + 5) 0))))) fun M4 => (bnd2 (f_X4_hangBeam M4 5 (((M 10 6) - (1) : Int32).toNatClampNeg)) fun r5 M6 => (letB (up2 M6 10 6 ((M6 10 6) - (1))) fun M8 => (bnd2 (f_X1_endFrame M8 ) fun r9 M10 => some (0, M10))))) else none) else some (1, M)) else some (1, M))
set_option maxHeartbeats 4000000 in
set_option maxRecDepth 100000 in
theorem c_X1_closeBeam (l : Launch) (g : GD) (M : MM)  (r : Int32) (M2 : MM) (h : f_X1_closeBeam M  = some (r, M2)) : Met l yX1_closeBeam (wm yX1_closeBeam cX1_closeBeam 2 (some .int)) (RM 2 63) (va_Pc [rf g (1686)] (WDp g M)) (QQ g (fun v w0 => v = .int r ∧ M2 = w0)) 0 0 (AA g) := by
  refine mkM (by decide +kernel) (Nat.le_of_ble_eq_true rfl) ?_
  intro p e s m below meth c C hr hlk hW hS ls hl
  have hl : lv_has ls 2 [(0, rf g (1686))] := hl
  have hx := C.1
  have hb := C.2.1
  have hts := C.2.2.2.2.1
  unfold f_X1_closeBeam at h
  refine lv_aload_n hx hb dX1_closeBeam_0 rfl (lv_at hl 0 rfl) ?_
  refine rGet (k := 0) C hW (by decide) tm_Read rfl inX1 (by decide) fl_X1_11 rfl dX1_closeBeam_1 ?_
  refine lv_iconst (v := 2) hx hb dX1_closeBeam_4 (by decide) ?_
  refine lv_icmp_ne (tgt := 16) hx hb dX1_closeBeam_5 (by decide) (fun c1 => ?_) (fun c1 => ?_)
  · rw [if_neg c1] at h
    refine lv_iconst (v := 1) hx hb dX1_closeBeam_16 (by decide) ?_
    cases h
    exact rI C hr hlk dX1_closeBeam_17 hW hS ⟨rfl, rfl⟩
  · rw [if_pos c1] at h
    refine lv_aload_n hx hb dX1_closeBeam_8 rfl (lv_at hl 0 rfl) ?_
    refine rGet (k := 6) C hW (by decide) tm_Read rfl inX1 (by decide) fl_X1_36 rfl dX1_closeBeam_9 ?_
    refine lv_iconst (v := 1) hx hb dX1_closeBeam_12 (by decide) ?_
    refine lv_icmp_ge (tgt := 18) hx hb dX1_closeBeam_13 (by decide) (fun c2 => ?_) (fun c2 => ?_)
    · rw [if_pos c2] at h
      refine lv_aload_n hx hb dX1_closeBeam_18 rfl (lv_at hl 0 rfl) ?_
      refine rGet (k := 4) C hW (by decide) tm_Read rfl inX1 (by decide) fl_X1_28 rfl dX1_closeBeam_19 ?_
      refine lv_aload_n hx hb dX1_closeBeam_22 rfl (lv_at hl 0 rfl) ?_
      refine rGet (k := 6) C hW (by decide) tm_Read rfl inX1 (by decide) fl_X1_36 rfl dX1_closeBeam_23 ?_
      refine lv_iconst (v := 1) hx hb dX1_closeBeam_26 (by decide) ?_
      refine lv_isub hx hb dX1_closeBeam_27 ?_
      have s3 : vin ((M 10 6) - (1)) 5 := Classical.byContradiction fun q9 => by rw [if_neg q9] at h; cases h
      rw [if_pos s3] at h
      refine rRld (j := 7) C hW (by decide) tm_firsts rfl s3 dX1_closeBeam_28 ?_
      refine lv_astore_n (lv' := [(1, rf g (1691 + ((M 10 6) - (1) : Int32).toNatClampNeg)), (0, rf g (1686))]) hx hb dX1_closeBeam_29 rfl hl (by decide) rfl (fun ls hl => ?_)
      refine lv_aload_n hx hb dX1_closeBeam_30 rfl (lv_at hl 1 rfl) ?_
      refine lv_aload_n hx hb dX1_closeBeam_31 rfl (lv_at hl 1 rfl) ?_
      refine rGet (k := 11) C hW (by decide) tm_Read rfl inX1 (by decide) fl_X1_52 rfl dX1_closeBeam_32 ?_
      refine lv_aload_n hx hb dX1_closeBeam_35 rfl (lv_at hl 0 rfl) ?_
      refine rGetN (k := 0) C hW (LD_first (vp_lt s3)).lt (LD_first (vp_lt s3)).cel rfl inX4 (by decide) fl_X1_128 rfl dX1_closeBeam_36 ?_
      refine lv_aload_n hx hb dX1_closeBeam_39 rfl (lv_at hl 1 rfl) ?_
      refine rGet (k := 3) C hW (by decide) tm_Read rfl inX1 (by decide) fl_X1_24 rfl dX1_closeBeam_40 ?_
      refine rGetN (k := 0) C hW LD_latest.lt LD_latest.cel rfl inX4 (by decide) fl_X1_128 rfl dX1_closeBeam_43 ?_
      refine lv_isub hx hb dX1_closeBeam_46 ?_
      refine va_mabs hx hb (C.2.2.1.trans hl.1.symm) C.2.2.2.1 (hts _ ml_X1_130) (hts _ st_abs) (hts _ in_J9) (hts _ co_abs) (Nat.le_of_ble_eq_true rfl) (Nat.le_of_ble_eq_true rfl) (Nat.zero_le _) (Nat.zero_le _) dX1_closeBeam_47 ?_
      refine va_mmax hx hb (C.2.2.1.trans hl.1.symm) C.2.2.2.1 (hts _ ml_X1_118) (hts _ st_max) (hts _ in_J9) (hts _ co_max) (Nat.le_of_ble_eq_true rfl) (Nat.le_of_ble_eq_true rfl) (Nat.zero_le _) (Nat.zero_le _) dX1_closeBeam_50 ?_
      refine rPut (k := 11) C hW hS (by decide) tm_Read rfl inX1 tyX1_ok nmX1 (by decide) fl_X1_52 rfl (by decide +kernel) (Nat.le_of_ble_eq_true rfl) (upd_Read_greatestSlant _) dX1_closeBeam_53 (fun H locs hW hS => ?_)
      have hW : Wd g (up2 M 10 11 (jmax (M 10 11) (jabs ((M (70 + ((M 10 6) - (1) : Int32).toNatClampNeg) 0) - (M (70 + 5) 0))))) H := hW
      have h := letE h
      generalize up2 M 10 11 (jmax (M 10 11) (jabs ((M (70 + ((M 10 6) - (1) : Int32).toNatClampNeg) 0) - (M (70 + 5) 0)))) = M4 at hW h
      refine lv_aload_n hx hb dX1_closeBeam_56 rfl (lv_at hl 1 rfl) ?_
      refine rGet (k := 3) C hW (by decide) tm_Read rfl inX1 (by decide) fl_X1_24 rfl dX1_closeBeam_57 ?_
      refine lv_aload_n hx hb dX1_closeBeam_60 rfl (lv_at hl 0 rfl) ?_
      obtain ⟨r5, M6, h7, h⟩ := bind2 h
      refine cBackV C.2.2.2.2.2.2.2.2 (runV (As := [rf g (1691 + ((M 10 6) - (1) : Int32).toNatClampNeg)]) (rest := []) C hW hS (c_X4_hangBeam l g M4 1687 5 (1691 + ((M 10 6) - (1) : Int32).toNatClampNeg) (((M 10 6) - (1) : Int32).toNatClampNeg) LD_latest (LD_first (vp_lt s3)) _ _ h7) kV_X4_hangBeam ml_X1_134 LD_latest.lt LD_latest.cel rfl rfl rfl hl.1 rfl (Nat.le_of_ble_eq_true rfl) ⟨Nat.le_of_ble_eq_true rfl, Nat.le_of_ble_eq_true rfl⟩ ⟨Nat.zero_le _, Nat.zero_le _⟩ dX1_closeBeam_61) hS (fun v0 H locs hp hW hS => ?_)
      subst hp
      refine lv_aload_n hx hb dX1_closeBeam_64 rfl (lv_at hl 1 rfl) ?_
      refine lv_dup hx hb dX1_closeBeam_65 rfl ?_
      refine rGet (k := 6) C hW (by decide) tm_Read rfl inX1 (by decide) fl_X1_36 rfl dX1_closeBeam_66 ?_
      refine lv_iconst (v := 1) hx hb dX1_closeBeam_69 (by decide) ?_
      refine lv_isub hx hb dX1_closeBeam_70 ?_
      refine rPut (k := 6) C hW hS (by decide) tm_Read rfl inX1 tyX1_ok nmX1 (by decide) fl_X1_36 rfl (by decide +kernel) (Nat.le_of_ble_eq_true rfl) (upd_Read_open _) dX1_closeBeam_71 (fun H locs hW hS => ?_)
      have hW : Wd g (up2 M6 10 6 ((M6 10 6) - (1))) H := hW
      have h := letE h
      generalize up2 M6 10 6 ((M6 10 6) - (1)) = M8 at hW h
      refine lv_aload_n hx hb dX1_closeBeam_74 rfl (lv_at hl 1 rfl) ?_
      obtain ⟨r9, M10, h11, h⟩ := bind2 h
      refine cBackV C.2.2.2.2.2.2.2.2 (runV (As := []) (rest := []) C hW hS (c_X1_endFrame l g M8  _ _ h11) kV_X1_endFrame ml_X1_115 (by decide) tm_Read rfl rfl rfl hl.1 rfl (Nat.le_of_ble_eq_true rfl) ⟨Nat.le_of_ble_eq_true rfl, Nat.le_of_ble_eq_true rfl⟩ ⟨Nat.zero_le _, Nat.zero_le _⟩ dX1_closeBeam_75) hS (fun v0 H locs hp hW hS => ?_)
      subst hp
      refine lv_iconst (v := 0) hx hb dX1_closeBeam_78 (by decide) ?_
      cases h
      exact rI C hr hlk dX1_closeBeam_79 hW hS ⟨rfl, rfl⟩
    · rw [if_neg c2] at h
      refine lv_iconst (v := 1) hx hb dX1_closeBeam_16 (by decide) ?_
      cases h
      exact rI C hr hlk dX1_closeBeam_17 hW hS ⟨rfl, rfl⟩
def f_X1_readSign (M : MM) (k : Nat) (x : Int32) : Option (Int32 × MM) := (bnd2 (f_X1_isDigit M x) fun r1 M2 => (if (r1 : Int32) = 0 then (if (x : Int32) = (40 : Int32) then (bnd2 (f_X1_openBeam M2 ) fun r14 M15 => some (r14, M15)) else (if (x : Int32) = (44 : Int32) then (bnd2 (f_X1_passComma M2 ) fun r11 M12 => some (r11, M12)) else (if (x : Int32) = (41 : Int32) then (bnd2 (f_X1_closeBeam M2 ) fun r8 M9 => some (r8, M9)) else some (1, M2)))) else (bnd2 (f_X1_digit M2 x) fun r17 M18 => (bnd2 (f_X1_readBell M18 k r17) fun r20 M21 => some (r20, M21)))))
set_option maxHeartbeats 4000000 in
set_option maxRecDepth 100000 in
theorem c_X1_readSign (l : Launch) (g : GD) (M : MM) (k : Nat) (x : Int32) (hk : k < 5) (r : Int32) (M2 : MM) (h : f_X1_readSign M k x = some (r, M2)) : Met l yX1_readSign (wm yX1_readSign cX1_readSign 3 (some .int)) (RM 3 84) (va_Pc [rf g (1686), .int (x), rf g (wB k)] (WDp g M)) (QQ g (fun v w0 => v = .int r ∧ M2 = w0)) 0 0 (AA g) := by
  refine mkM (by decide +kernel) (Nat.le_of_ble_eq_true rfl) ?_
  intro p e s m below meth c C hr hlk hW hS ls hl
  have hl : lv_has ls 3 [(0, rf g (1686)), (1, .int (x)), (2, rf g (wB k))] := hl
  have hx := C.1
  have hb := C.2.1
  have hts := C.2.2.2.2.1
  unfold f_X1_readSign at h
  refine lv_iload_n hx hb dX1_readSign_0 rfl (lv_at hl 1 rfl) ?_
  obtain ⟨r1, M2, h3, h⟩ := bind2 h
  refine cBack C.2.2.2.2.2.2.2.2 (runS (As := [.int (x)]) (rest := []) C hW hS (c_X1_isDigit l g M x _ _ h3) kS_X1_isDigit ml_X1_58 rfl hl.1 rfl (Nat.le_of_ble_eq_true rfl) ⟨Nat.le_of_ble_eq_true rfl, Nat.le_of_ble_eq_true rfl⟩ ⟨Nat.zero_le _, Nat.zero_le _⟩ dX1_readSign_1) hS (fun v0 w0 H locs hp hW hS => ?_)
  obtain ⟨rfl, rfl, zr1⟩ := hp
  refine lv_if_eq (tgt := 17) hx hb dX1_readSign_4 (by decide) (fun c4 => ?_) (fun c4 => ?_)
  · rw [if_pos c4] at h
    refine lv_iload_n hx hb dX1_readSign_17 rfl (lv_at hl 1 rfl) ?_
    refine lv_bipush (v := 40) hx hb dX1_readSign_18 (by decide) ?_
    refine lv_icmp_ne (tgt := 28) hx hb dX1_readSign_20 (by decide) (fun c5 => ?_) (fun c5 => ?_)
    · rw [if_neg c5] at h
      refine lv_iload_n hx hb dX1_readSign_28 rfl (lv_at hl 1 rfl) ?_
      refine lv_bipush (v := 44) hx hb dX1_readSign_29 (by decide) ?_
      refine lv_icmp_ne (tgt := 39) hx hb dX1_readSign_31 (by decide) (fun c6 => ?_) (fun c6 => ?_)
      · rw [if_neg c6] at h
        refine lv_iload_n hx hb dX1_readSign_39 rfl (lv_at hl 1 rfl) ?_
        refine lv_bipush (v := 41) hx hb dX1_readSign_40 (by decide) ?_
        refine lv_icmp_ne (tgt := 52) hx hb dX1_readSign_42 (by decide) (fun c7 => ?_) (fun c7 => ?_)
        · rw [if_neg c7] at h
          refine lv_iconst (v := 1) hx hb dX1_readSign_52 (by decide) ?_
          cases h
          exact rI C hr hlk dX1_readSign_53 hW hS ⟨rfl, rfl⟩
        · rw [if_pos c7] at h
          refine lv_aload_n hx hb dX1_readSign_45 rfl (lv_at hl 0 rfl) ?_
          obtain ⟨r8, M9, h10, h⟩ := bind2 h
          refine cBack C.2.2.2.2.2.2.2.2 (runV (As := []) (rest := []) C hW hS (c_X1_closeBeam l g M2  _ _ h10) kV_X1_closeBeam ml_X1_87 (by decide) tm_Read rfl rfl rfl hl.1 rfl (Nat.le_of_ble_eq_true rfl) ⟨Nat.le_of_ble_eq_true rfl, Nat.le_of_ble_eq_true rfl⟩ ⟨Nat.zero_le _, Nat.zero_le _⟩ dX1_readSign_46) hS (fun v0 w0 H locs hp hW hS => ?_)
          obtain ⟨rfl, rfl⟩ := hp
          refine lv_goto (tgt := 53) hx hb dX1_readSign_49 (by decide) ?_
          cases h
          exact rI C hr hlk dX1_readSign_53 hW hS ⟨rfl, rfl⟩
      · rw [if_pos c6] at h
        refine lv_aload_n hx hb dX1_readSign_34 rfl (lv_at hl 0 rfl) ?_
        obtain ⟨r11, M12, h13, h⟩ := bind2 h
        refine cBack C.2.2.2.2.2.2.2.2 (runV (As := []) (rest := []) C hW hS (c_X1_passComma l g M2  _ _ h13) kV_X1_passComma ml_X1_84 (by decide) tm_Read rfl rfl rfl hl.1 rfl (Nat.le_of_ble_eq_true rfl) ⟨Nat.le_of_ble_eq_true rfl, Nat.le_of_ble_eq_true rfl⟩ ⟨Nat.zero_le _, Nat.zero_le _⟩ dX1_readSign_35) hS (fun v0 w0 H locs hp hW hS => ?_)
        obtain ⟨rfl, rfl⟩ := hp
        cases h
        exact rI C hr hlk dX1_readSign_38 hW hS ⟨rfl, rfl⟩
    · rw [if_pos c5] at h
      refine lv_aload_n hx hb dX1_readSign_23 rfl (lv_at hl 0 rfl) ?_
      obtain ⟨r14, M15, h16, h⟩ := bind2 h
      refine cBack C.2.2.2.2.2.2.2.2 (runV (As := []) (rest := []) C hW hS (c_X1_openBeam l g M2  _ _ h16) kV_X1_openBeam ml_X1_80 (by decide) tm_Read rfl rfl rfl hl.1 rfl (Nat.le_of_ble_eq_true rfl) ⟨Nat.le_of_ble_eq_true rfl, Nat.le_of_ble_eq_true rfl⟩ ⟨Nat.zero_le _, Nat.zero_le _⟩ dX1_readSign_24) hS (fun v0 w0 H locs hp hW hS => ?_)
      obtain ⟨rfl, rfl⟩ := hp
      cases h
      exact rI C hr hlk dX1_readSign_27 hW hS ⟨rfl, rfl⟩
  · rw [if_neg c4] at h
    refine lv_aload_n hx hb dX1_readSign_7 rfl (lv_at hl 0 rfl) ?_
    refine lv_iload_n hx hb dX1_readSign_8 rfl (lv_at hl 1 rfl) ?_
    obtain ⟨r17, M18, h19, h⟩ := bind2 h
    refine cBack C.2.2.2.2.2.2.2.2 (runS (As := [.int (x)]) (rest := [rf g (1686)]) C hW hS (c_X1_digit l g M2 x _ _ h19) kS_X1_digit ml_X1_62 rfl hl.1 rfl (Nat.le_of_ble_eq_true rfl) ⟨Nat.le_of_ble_eq_true rfl, Nat.le_of_ble_eq_true rfl⟩ ⟨Nat.zero_le _, Nat.zero_le _⟩ dX1_readSign_9) hS (fun v0 w0 H locs hp hW hS => ?_)
    obtain ⟨rfl, rfl⟩ := hp
    refine lv_aload_n hx hb dX1_readSign_12 rfl (lv_at hl 2 rfl) ?_
    obtain ⟨r20, M21, h22, h⟩ := bind2 h
    refine cBack C.2.2.2.2.2.2.2.2 (runV (As := [.int (r17), rf g (wB k)]) (rest := []) C hW hS (c_X1_readBell l g M18 k r17 hk _ _ h22) kV_X1_readBell ml_X1_66 (by decide) tm_Read rfl rfl rfl hl.1 rfl (Nat.le_of_ble_eq_true rfl) ⟨Nat.le_of_ble_eq_true rfl, Nat.le_of_ble_eq_true rfl⟩ ⟨Nat.zero_le _, Nat.zero_le _⟩ dX1_readSign_13) hS (fun v0 w0 H locs hp hW hS => ?_)
    obtain ⟨rfl, rfl⟩ := hp
    cases h
    exact rI C hr hlk dX1_readSign_16 hW hS ⟨rfl, rfl⟩
def lp_X1_read_7 (fu : Nat) (M : MM) (k : Nat) (x : Int32) (z : Int32) : Option (Unit × MM) := match fu with
  | 0 => none
  | n + 1 => (if (x : Int32) ≤ (z : Int32) then (letB (up2 M 10 1 (x)) fun M1002 => (if (M1002 10 0 : Int32) = (3 : Int32) then (letB (up2 M1002 10 2 (0)) fun M1005 => some ((), M1005)) else (letB (up2 M1002 10 2 (4)) fun M1004 => some ((), M1004)))) else (letB (up2 M 10 1 (z)) fun M1006 => (if (x : Int32) ≤ ((z) + (1) : Int32) then (if (0 : Int32) = 0 then (if vin (z) 60 then (bnd2 (f_X1_readSign M1006 k (M1006 14 (z : Int32).toNatClampNeg)) fun r1010 M1011 => (letB (up2 M1011 10 2 (r1010)) fun M1013 => (if (M1013 10 2 : Int32) = 0 then (lp_X1_read_7 n M1013 k  x (z + 1)) else some ((), M1013)))) else none) else none) else (if vin (z) 60 then (bnd2 (f_X1_isDigit M1006 (M1006 14 (z : Int32).toNatClampNeg)) fun r1016 M1017 => (if (r1016 : Int32) = 0 then (if (0 : Int32) = 0 then (if vin (z) 60 then (bnd2 (f_X1_readSign M1017 k (M1017 14 (z : Int32).toNatClampNeg)) fun r1022 M1023 => (letB (up2 M1023 10 2 (r1022)) fun M1025 => (if (M1025 10 2 : Int32) = 0 then (lp_X1_read_7 n M1025 k  x (z + 1)) else some ((), M1025)))) else none) else none) else (if vin ((z) + (1)) 60 then (bnd2 (f_X1_isDigit M1017 (M1017 14 ((z) + (1) : Int32).toNatClampNeg)) fun r1028 M1029 => (if (r1028 : Int32) = 0 then (if (0 : Int32) = 0 then (if vin (z) 60 then (bnd2 (f_X1_readSign M1029 k (M1029 14 (z : Int32).toNatClampNeg)) fun r1034 M1035 => (letB (up2 M1035 10 2 (r1034)) fun M1037 => (if (M1037 10 2 : Int32) = 0 then (lp_X1_read_7 n M1037 k  x (z + 1)) else some ((), M1037)))) else none) else none) else (if (1 : Int32) = 0 then none else (if vin (z) 60 then (bnd2 (f_X1_digit M1029 (M1029 14 (z : Int32).toNatClampNeg)) fun r1041 M1042 => (if vin ((z) + (1)) 60 then (bnd2 (f_X1_digit M1042 (M1042 14 ((z) + (1) : Int32).toNatClampNeg)) fun r1045 M1046 => (bnd2 (f_X1_readBell M1046 k (((10) * (r1041)) + (r1045))) fun r1048 M1049 => (letB (up2 M1049 10 2 (r1048)) fun M1051 => (if (M1051 10 2 : Int32) = 0 then (lp_X1_read_7 n M1051 k  x (z + 2)) else some ((), M1051))))) else none)) else none)))) else none))) else none))))
def f_X1_read (M : MM) (k : Nat) (x : Int32) : Option (Unit × MM) := (bnd2 (f_X1_begin M ) fun r1 M2 => (lp_X1_read_7 FU M2 k  x 0))
set_option maxHeartbeats 4000000 in
set_option maxRecDepth 100000 in
theorem t_X1_read_7 (l : Launch) (g : GD) {p : Program} {e : Env} {s : State} {m : MethodId} {av : Array Value} {below : List Frame} {meth : Method} {c : Code} (k : Nat) (hk : k < 5) (n : Nat) : ∀ (M : MM) (x : Int32) (z : Int32) (r : Unit) (M2 : MM), lp_X1_read_7 n M k  x z = some (r, M2) → CX p s m av c cX1_read 6 RX1 g → meth.sig.returnType = none → meth.locks = false → ∀ (H : Heap) (locs : List Loc), Wd g M H → sS g s H locs → ∀ ls : Array Slot, lv_has ls 6 [(0, rf g (1686)), (1, rf g (1696)), (2, .int (x)), (3, rf g (wB k)), (4, .int (z))] → W p l e (RM 4 106) s m av below meth c H locs 0 0 (MQ below (QV g (fun w0 => M2 = w0)) av s 0 0 (AA g)) (F0 m 7 ls []) := by
  induction n with
  | zero => intro M x z r M2 h; cases h
  | succ n ih0 =>
    intro M x z r M2 h C hr hlk H locs hW hS ls hl
    have ih : ∀ (M : MM) (x : Int32) (z : Int32), lp_X1_read_7 n M k  x z = some (r, M2) → ∀ (H : Heap) (locs : List Loc), Wd g M H → sS g s H locs → ∀ ls : Array Slot, lv_has ls 6 [(0, rf g (1686)), (1, rf g (1696)), (2, .int (x)), (3, rf g (wB k)), (4, .int (z))] → W p l e (RM 4 106) s m av below meth c H locs 0 0 (MQ below (QV g (fun w0 => M2 = w0)) av s 0 0 (AA g)) (F0 m 7 ls []) := fun M x z h H locs hW hS ls hl => ih0 M x z r M2 h C hr hlk H locs hW hS ls hl
    unfold lp_X1_read_7 at h
    try dsimp only at h
    have hx := C.1
    have hb := C.2.1
    have hts := C.2.2.2.2.1
    refine lv_iload hx hb dX1_read_7 (lv_at hl 4 rfl) ?_
    refine lv_iload_n hx hb dX1_read_9 rfl (lv_at hl 2 rfl) ?_
    refine lv_icmp_ge (tgt := 123) hx hb dX1_read_10 (by decide) (fun c1001 => ?_) (fun c1001 => ?_)
    · rw [if_pos c1001] at h
      refine lv_aload_n hx hb dX1_read_123 rfl (lv_at hl 0 rfl) ?_
      refine lv_iload_n hx hb dX1_read_124 rfl (lv_at hl 2 rfl) ?_
      refine rPut (k := 1) C hW hS (by decide) tm_Read rfl inX1 tyX1_ok nmX1 (by decide) fl_X1_15 rfl (by decide +kernel) (Nat.le_of_ble_eq_true rfl) (upd_Read_position _) dX1_read_125 (fun H locs hW hS => ?_)
      have hW : Wd g (up2 M 10 1 (x)) H := hW
      have h := letE h
      generalize up2 M 10 1 (x) = M1002 at hW h
      refine lv_aload_n hx hb dX1_read_128 rfl (lv_at hl 0 rfl) ?_
      refine lv_aload_n hx hb dX1_read_129 rfl (lv_at hl 0 rfl) ?_
      refine rGet (k := 0) C hW (by decide) tm_Read rfl inX1 (by decide) fl_X1_11 rfl dX1_read_130 ?_
      refine lv_iconst (v := 3) hx hb dX1_read_133 (by decide) ?_
      refine lv_icmp_ne (tgt := 141) hx hb dX1_read_134 (by decide) (fun c1003 => ?_) (fun c1003 => ?_)
      · rw [if_neg c1003] at h
        refine lv_iconst (v := 4) hx hb dX1_read_141 (by decide) ?_
        refine rPut (k := 2) C hW hS (by decide) tm_Read rfl inX1 tyX1_ok nmX1 (by decide) fl_X1_18 rfl (by decide +kernel) (Nat.le_of_ble_eq_true rfl) (upd_Read_reason _) dX1_read_142 (fun H locs hW hS => ?_)
        have hW : Wd g (up2 M1002 10 2 (4)) H := hW
        have h := letE h
        generalize up2 M1002 10 2 (4) = M1004 at hW h
        cases h
        exact rV C hr hlk dX1_read_145 hW hS rfl
      · rw [if_pos c1003] at h
        refine lv_iconst (v := 0) hx hb dX1_read_137 (by decide) ?_
        refine lv_goto (tgt := 142) hx hb dX1_read_138 (by decide) ?_
        refine rPut (k := 2) C hW hS (by decide) tm_Read rfl inX1 tyX1_ok nmX1 (by decide) fl_X1_18 rfl (by decide +kernel) (Nat.le_of_ble_eq_true rfl) (upd_Read_reason _) dX1_read_142 (fun H locs hW hS => ?_)
        have hW : Wd g (up2 M1002 10 2 (0)) H := hW
        have h := letE h
        generalize up2 M1002 10 2 (0) = M1005 at hW h
        cases h
        exact rV C hr hlk dX1_read_145 hW hS rfl
    · rw [if_neg c1001] at h
      refine lv_aload_n hx hb dX1_read_13 rfl (lv_at hl 0 rfl) ?_
      refine lv_iload hx hb dX1_read_14 (lv_at hl 4 rfl) ?_
      refine rPut (k := 1) C hW hS (by decide) tm_Read rfl inX1 tyX1_ok nmX1 (by decide) fl_X1_15 rfl (by decide +kernel) (Nat.le_of_ble_eq_true rfl) (upd_Read_position _) dX1_read_16 (fun H locs hW hS => ?_)
      have hW : Wd g (up2 M 10 1 (z)) H := hW
      have h := letE h
      generalize up2 M 10 1 (z) = M1006 at hW h
      refine lv_iload hx hb dX1_read_19 (lv_at hl 4 rfl) ?_
      refine lv_iconst (v := 1) hx hb dX1_read_21 (by decide) ?_
      refine lv_iadd hx hb dX1_read_22 ?_
      refine lv_iload_n hx hb dX1_read_23 rfl (lv_at hl 2 rfl) ?_
      refine lv_icmp_ge (tgt := 53) hx hb dX1_read_24 (by decide) (fun c1007 => ?_) (fun c1007 => ?_)
      · rw [if_pos c1007] at h
        refine lv_iconst (v := 0) hx hb dX1_read_53 (by decide) ?_
        refine lv_istore (lv' := [(5, .int (0)), (0, rf g (1686)), (1, rf g (1696)), (2, .int (x)), (3, rf g (wB k)), (4, .int (z))]) hx hb dX1_read_54 hl (by decide) rfl (fun ls hl => ?_)
        refine lv_iload hx hb dX1_read_56 (lv_at hl 0 rfl) ?_
        refine lv_if_eq (tgt := 96) hx hb dX1_read_58 (by decide) (fun c1008 => ?_) (fun c1008 => ?_)
        · rw [if_pos c1008] at h
          refine lv_aload_n hx hb dX1_read_96 rfl (lv_at hl 1 rfl) ?_
          refine lv_aload_n hx hb dX1_read_97 rfl (lv_at hl 1 rfl) ?_
          refine lv_aload_n hx hb dX1_read_98 rfl (lv_at hl 2 rfl) ?_
          refine lv_iload hx hb dX1_read_99 (lv_at hl 5 rfl) ?_
          have s1009 : vin (z) 60 := Classical.byContradiction fun q9 => by rw [if_neg q9] at h; cases h
          rw [if_pos s1009] at h
          refine rCld C hW (by decide) tm_text s1009 dX1_read_101 ?_
          refine lv_aload_n hx hb dX1_read_102 rfl (lv_at hl 4 rfl) ?_
          obtain ⟨r1010, M1011, h1012, h⟩ := bind2 h
          refine cBack C.2.2.2.2.2.2.2.2 (runV (As := [.int (M1006 14 (z : Int32).toNatClampNeg), rf g (wB k)]) (rest := [rf g (1686)]) C hW hS (c_X1_readSign l g M1006 k (M1006 14 (z : Int32).toNatClampNeg) hk _ _ h1012) kV_X1_readSign ml_X1_70 (by decide) tm_Read rfl rfl rfl hl.1 rfl (Nat.le_of_ble_eq_true rfl) ⟨Nat.le_of_ble_eq_true rfl, Nat.le_of_ble_eq_true rfl⟩ ⟨Nat.zero_le _, Nat.zero_le _⟩ dX1_read_103) hS (fun v0 w0 H locs hp hW hS => ?_)
          obtain ⟨rfl, rfl⟩ := hp
          refine rPut (k := 2) C hW hS (by decide) tm_Read rfl inX1 tyX1_ok nmX1 (by decide) fl_X1_18 rfl (by decide +kernel) (Nat.le_of_ble_eq_true rfl) (upd_Read_reason _) dX1_read_106 (fun H locs hW hS => ?_)
          have hW : Wd g (up2 M1011 10 2 (r1010)) H := hW
          have h := letE h
          generalize up2 M1011 10 2 (r1010) = M1013 at hW h
          refine lv_iinc (v := z + 1) (lv' := [(4, .int (z + 1)), (5, .int (0)), (0, rf g (1686)), (1, rf g (1696)), (2, .int (x)), (3, rf g (wB k))]) hx hb dX1_read_109 hl (k := 5) rfl rfl (by decide) rfl (fun ls hl => ?_)
          refine lv_aload_n hx hb dX1_read_112 rfl (lv_at hl 2 rfl) ?_
          refine rGet (k := 2) C hW (by decide) tm_Read rfl inX1 (by decide) fl_X1_18 rfl dX1_read_113 ?_
          refine lv_if_eq (tgt := 120) hx hb dX1_read_116 (by decide) (fun c1014 => ?_) (fun c1014 => ?_)
          · rw [if_pos c1014] at h
            refine lv_goto (tgt := 7) hx hb dX1_read_120 (by decide) ?_
            exact ih M1013 x (z + 1) h _ _ hW hS ls (lv_sub hl [2, 3, 4, 5, 0] rfl)
          · rw [if_neg c1014] at h
            cases h
            exact rV C hr hlk dX1_read_119 hW hS rfl
        · rw [if_neg c1008] at h
          cases h
      · rw [if_neg c1007] at h
        refine lv_aload_n hx hb dX1_read_27 rfl (lv_at hl 1 rfl) ?_
        refine lv_iload hx hb dX1_read_28 (lv_at hl 4 rfl) ?_
        have s1015 : vin (z) 60 := Classical.byContradiction fun q9 => by rw [if_neg q9] at h; cases h
        rw [if_pos s1015] at h
        refine rCld C hW (by decide) tm_text s1015 dX1_read_30 ?_
        obtain ⟨r1016, M1017, h1018, h⟩ := bind2 h
        refine cBack C.2.2.2.2.2.2.2.2 (runS (As := [.int (M1006 14 (z : Int32).toNatClampNeg)]) (rest := []) C hW hS (c_X1_isDigit l g M1006 (M1006 14 (z : Int32).toNatClampNeg) _ _ h1018) kS_X1_isDigit ml_X1_58 rfl hl.1 rfl (Nat.le_of_ble_eq_true rfl) ⟨Nat.le_of_ble_eq_true rfl, Nat.le_of_ble_eq_true rfl⟩ ⟨Nat.zero_le _, Nat.zero_le _⟩ dX1_read_31) hS (fun v0 w0 H locs hp hW hS => ?_)
        obtain ⟨rfl, rfl, zr1016⟩ := hp
        refine lv_if_eq (tgt := 53) hx hb dX1_read_34 (by decide) (fun c1019 => ?_) (fun c1019 => ?_)
        · rw [if_pos c1019] at h
          refine lv_iconst (v := 0) hx hb dX1_read_53 (by decide) ?_
          refine lv_istore (lv' := [(5, .int (0)), (0, rf g (1686)), (1, rf g (1696)), (2, .int (x)), (3, rf g (wB k)), (4, .int (z))]) hx hb dX1_read_54 hl (by decide) rfl (fun ls hl => ?_)
          refine lv_iload hx hb dX1_read_56 (lv_at hl 0 rfl) ?_
          refine lv_if_eq (tgt := 96) hx hb dX1_read_58 (by decide) (fun c1020 => ?_) (fun c1020 => ?_)
          · rw [if_pos c1020] at h
            refine lv_aload_n hx hb dX1_read_96 rfl (lv_at hl 1 rfl) ?_
            refine lv_aload_n hx hb dX1_read_97 rfl (lv_at hl 1 rfl) ?_
            refine lv_aload_n hx hb dX1_read_98 rfl (lv_at hl 2 rfl) ?_
            refine lv_iload hx hb dX1_read_99 (lv_at hl 5 rfl) ?_
            have s1021 : vin (z) 60 := Classical.byContradiction fun q9 => by rw [if_neg q9] at h; cases h
            rw [if_pos s1021] at h
            refine rCld C hW (by decide) tm_text s1021 dX1_read_101 ?_
            refine lv_aload_n hx hb dX1_read_102 rfl (lv_at hl 4 rfl) ?_
            obtain ⟨r1022, M1023, h1024, h⟩ := bind2 h
            refine cBack C.2.2.2.2.2.2.2.2 (runV (As := [.int (M1017 14 (z : Int32).toNatClampNeg), rf g (wB k)]) (rest := [rf g (1686)]) C hW hS (c_X1_readSign l g M1017 k (M1017 14 (z : Int32).toNatClampNeg) hk _ _ h1024) kV_X1_readSign ml_X1_70 (by decide) tm_Read rfl rfl rfl hl.1 rfl (Nat.le_of_ble_eq_true rfl) ⟨Nat.le_of_ble_eq_true rfl, Nat.le_of_ble_eq_true rfl⟩ ⟨Nat.zero_le _, Nat.zero_le _⟩ dX1_read_103) hS (fun v0 w0 H locs hp hW hS => ?_)
            obtain ⟨rfl, rfl⟩ := hp
            refine rPut (k := 2) C hW hS (by decide) tm_Read rfl inX1 tyX1_ok nmX1 (by decide) fl_X1_18 rfl (by decide +kernel) (Nat.le_of_ble_eq_true rfl) (upd_Read_reason _) dX1_read_106 (fun H locs hW hS => ?_)
            have hW : Wd g (up2 M1023 10 2 (r1022)) H := hW
            have h := letE h
            generalize up2 M1023 10 2 (r1022) = M1025 at hW h
            refine lv_iinc (v := z + 1) (lv' := [(4, .int (z + 1)), (5, .int (0)), (0, rf g (1686)), (1, rf g (1696)), (2, .int (x)), (3, rf g (wB k))]) hx hb dX1_read_109 hl (k := 5) rfl rfl (by decide) rfl (fun ls hl => ?_)
            refine lv_aload_n hx hb dX1_read_112 rfl (lv_at hl 2 rfl) ?_
            refine rGet (k := 2) C hW (by decide) tm_Read rfl inX1 (by decide) fl_X1_18 rfl dX1_read_113 ?_
            refine lv_if_eq (tgt := 120) hx hb dX1_read_116 (by decide) (fun c1026 => ?_) (fun c1026 => ?_)
            · rw [if_pos c1026] at h
              refine lv_goto (tgt := 7) hx hb dX1_read_120 (by decide) ?_
              exact ih M1025 x (z + 1) h _ _ hW hS ls (lv_sub hl [2, 3, 4, 5, 0] rfl)
            · rw [if_neg c1026] at h
              cases h
              exact rV C hr hlk dX1_read_119 hW hS rfl
          · rw [if_neg c1020] at h
            cases h
        · rw [if_neg c1019] at h
          refine lv_aload_n hx hb dX1_read_37 rfl (lv_at hl 1 rfl) ?_
          refine lv_iload hx hb dX1_read_38 (lv_at hl 4 rfl) ?_
          refine lv_iconst (v := 1) hx hb dX1_read_40 (by decide) ?_
          refine lv_iadd hx hb dX1_read_41 ?_
          have s1027 : vin ((z) + (1)) 60 := Classical.byContradiction fun q9 => by rw [if_neg q9] at h; cases h
          rw [if_pos s1027] at h
          refine rCld C hW (by decide) tm_text s1027 dX1_read_42 ?_
          obtain ⟨r1028, M1029, h1030, h⟩ := bind2 h
          refine cBack C.2.2.2.2.2.2.2.2 (runS (As := [.int (M1017 14 ((z) + (1) : Int32).toNatClampNeg)]) (rest := []) C hW hS (c_X1_isDigit l g M1017 (M1017 14 ((z) + (1) : Int32).toNatClampNeg) _ _ h1030) kS_X1_isDigit ml_X1_58 rfl hl.1 rfl (Nat.le_of_ble_eq_true rfl) ⟨Nat.le_of_ble_eq_true rfl, Nat.le_of_ble_eq_true rfl⟩ ⟨Nat.zero_le _, Nat.zero_le _⟩ dX1_read_43) hS (fun v0 w0 H locs hp hW hS => ?_)
          obtain ⟨rfl, rfl, zr1028⟩ := hp
          refine lv_if_eq (tgt := 53) hx hb dX1_read_46 (by decide) (fun c1031 => ?_) (fun c1031 => ?_)
          · rw [if_pos c1031] at h
            refine lv_iconst (v := 0) hx hb dX1_read_53 (by decide) ?_
            refine lv_istore (lv' := [(5, .int (0)), (0, rf g (1686)), (1, rf g (1696)), (2, .int (x)), (3, rf g (wB k)), (4, .int (z))]) hx hb dX1_read_54 hl (by decide) rfl (fun ls hl => ?_)
            refine lv_iload hx hb dX1_read_56 (lv_at hl 0 rfl) ?_
            refine lv_if_eq (tgt := 96) hx hb dX1_read_58 (by decide) (fun c1032 => ?_) (fun c1032 => ?_)
            · rw [if_pos c1032] at h
              refine lv_aload_n hx hb dX1_read_96 rfl (lv_at hl 1 rfl) ?_
              refine lv_aload_n hx hb dX1_read_97 rfl (lv_at hl 1 rfl) ?_
              refine lv_aload_n hx hb dX1_read_98 rfl (lv_at hl 2 rfl) ?_
              refine lv_iload hx hb dX1_read_99 (lv_at hl 5 rfl) ?_
              have s1033 : vin (z) 60 := Classical.byContradiction fun q9 => by rw [if_neg q9] at h; cases h
              rw [if_pos s1033] at h
              refine rCld C hW (by decide) tm_text s1033 dX1_read_101 ?_
              refine lv_aload_n hx hb dX1_read_102 rfl (lv_at hl 4 rfl) ?_
              obtain ⟨r1034, M1035, h1036, h⟩ := bind2 h
              refine cBack C.2.2.2.2.2.2.2.2 (runV (As := [.int (M1029 14 (z : Int32).toNatClampNeg), rf g (wB k)]) (rest := [rf g (1686)]) C hW hS (c_X1_readSign l g M1029 k (M1029 14 (z : Int32).toNatClampNeg) hk _ _ h1036) kV_X1_readSign ml_X1_70 (by decide) tm_Read rfl rfl rfl hl.1 rfl (Nat.le_of_ble_eq_true rfl) ⟨Nat.le_of_ble_eq_true rfl, Nat.le_of_ble_eq_true rfl⟩ ⟨Nat.zero_le _, Nat.zero_le _⟩ dX1_read_103) hS (fun v0 w0 H locs hp hW hS => ?_)
              obtain ⟨rfl, rfl⟩ := hp
              refine rPut (k := 2) C hW hS (by decide) tm_Read rfl inX1 tyX1_ok nmX1 (by decide) fl_X1_18 rfl (by decide +kernel) (Nat.le_of_ble_eq_true rfl) (upd_Read_reason _) dX1_read_106 (fun H locs hW hS => ?_)
              have hW : Wd g (up2 M1035 10 2 (r1034)) H := hW
              have h := letE h
              generalize up2 M1035 10 2 (r1034) = M1037 at hW h
              refine lv_iinc (v := z + 1) (lv' := [(4, .int (z + 1)), (5, .int (0)), (0, rf g (1686)), (1, rf g (1696)), (2, .int (x)), (3, rf g (wB k))]) hx hb dX1_read_109 hl (k := 5) rfl rfl (by decide) rfl (fun ls hl => ?_)
              refine lv_aload_n hx hb dX1_read_112 rfl (lv_at hl 2 rfl) ?_
              refine rGet (k := 2) C hW (by decide) tm_Read rfl inX1 (by decide) fl_X1_18 rfl dX1_read_113 ?_
              refine lv_if_eq (tgt := 120) hx hb dX1_read_116 (by decide) (fun c1038 => ?_) (fun c1038 => ?_)
              · rw [if_pos c1038] at h
                refine lv_goto (tgt := 7) hx hb dX1_read_120 (by decide) ?_
                exact ih M1037 x (z + 1) h _ _ hW hS ls (lv_sub hl [2, 3, 4, 5, 0] rfl)
              · rw [if_neg c1038] at h
                cases h
                exact rV C hr hlk dX1_read_119 hW hS rfl
            · rw [if_neg c1032] at h
              cases h
          · rw [if_neg c1031] at h
            refine lv_iconst (v := 1) hx hb dX1_read_49 (by decide) ?_
            refine lv_goto (tgt := 54) hx hb dX1_read_50 (by decide) ?_
            refine lv_istore (lv' := [(5, .int (1)), (0, rf g (1686)), (1, rf g (1696)), (2, .int (x)), (3, rf g (wB k)), (4, .int (z))]) hx hb dX1_read_54 hl (by decide) rfl (fun ls hl => ?_)
            refine lv_iload hx hb dX1_read_56 (lv_at hl 0 rfl) ?_
            refine lv_if_eq (tgt := 96) hx hb dX1_read_58 (by decide) (fun c1039 => ?_) (fun c1039 => ?_)
            · rw [if_pos c1039] at h
              cases h
            · rw [if_neg c1039] at h
              refine lv_aload_n hx hb dX1_read_61 rfl (lv_at hl 1 rfl) ?_
              refine lv_aload_n hx hb dX1_read_62 rfl (lv_at hl 1 rfl) ?_
              refine lv_bipush (v := 10) hx hb dX1_read_63 (by decide) ?_
              refine lv_aload_n hx hb dX1_read_65 rfl (lv_at hl 2 rfl) ?_
              refine lv_iload hx hb dX1_read_66 (lv_at hl 5 rfl) ?_
              have s1040 : vin (z) 60 := Classical.byContradiction fun q9 => by rw [if_neg q9] at h; cases h
              rw [if_pos s1040] at h
              refine rCld C hW (by decide) tm_text s1040 dX1_read_68 ?_
              obtain ⟨r1041, M1042, h1043, h⟩ := bind2 h
              refine cBack C.2.2.2.2.2.2.2.2 (runS (As := [.int (M1029 14 (z : Int32).toNatClampNeg)]) (rest := [.int (10), rf g (1686), rf g (1686)]) C hW hS (c_X1_digit l g M1029 (M1029 14 (z : Int32).toNatClampNeg) _ _ h1043) kS_X1_digit ml_X1_62 rfl hl.1 rfl (Nat.le_of_ble_eq_true rfl) ⟨Nat.le_of_ble_eq_true rfl, Nat.le_of_ble_eq_true rfl⟩ ⟨Nat.zero_le _, Nat.zero_le _⟩ dX1_read_69) hS (fun v0 w0 H locs hp hW hS => ?_)
              obtain ⟨rfl, rfl⟩ := hp
              refine lv_imul hx hb dX1_read_72 ?_
              refine lv_aload_n hx hb dX1_read_73 rfl (lv_at hl 2 rfl) ?_
              refine lv_iload hx hb dX1_read_74 (lv_at hl 5 rfl) ?_
              refine lv_iconst (v := 1) hx hb dX1_read_76 (by decide) ?_
              refine lv_iadd hx hb dX1_read_77 ?_
              have s1044 : vin ((z) + (1)) 60 := Classical.byContradiction fun q9 => by rw [if_neg q9] at h; cases h
              rw [if_pos s1044] at h
              refine rCld C hW (by decide) tm_text s1044 dX1_read_78 ?_
              obtain ⟨r1045, M1046, h1047, h⟩ := bind2 h
              refine cBack C.2.2.2.2.2.2.2.2 (runS (As := [.int (M1042 14 ((z) + (1) : Int32).toNatClampNeg)]) (rest := [.int ((10) * (r1041)), rf g (1686), rf g (1686)]) C hW hS (c_X1_digit l g M1042 (M1042 14 ((z) + (1) : Int32).toNatClampNeg) _ _ h1047) kS_X1_digit ml_X1_62 rfl hl.1 rfl (Nat.le_of_ble_eq_true rfl) ⟨Nat.le_of_ble_eq_true rfl, Nat.le_of_ble_eq_true rfl⟩ ⟨Nat.zero_le _, Nat.zero_le _⟩ dX1_read_79) hS (fun v0 w0 H locs hp hW hS => ?_)
              obtain ⟨rfl, rfl⟩ := hp
              refine lv_iadd hx hb dX1_read_82 ?_
              refine lv_aload_n hx hb dX1_read_83 rfl (lv_at hl 4 rfl) ?_
              obtain ⟨r1048, M1049, h1050, h⟩ := bind2 h
              refine cBack C.2.2.2.2.2.2.2.2 (runV (As := [.int (((10) * (r1041)) + (r1045)), rf g (wB k)]) (rest := [rf g (1686)]) C hW hS (c_X1_readBell l g M1046 k (((10) * (r1041)) + (r1045)) hk _ _ h1050) kV_X1_readBell ml_X1_66 (by decide) tm_Read rfl rfl rfl hl.1 rfl (Nat.le_of_ble_eq_true rfl) ⟨Nat.le_of_ble_eq_true rfl, Nat.le_of_ble_eq_true rfl⟩ ⟨Nat.zero_le _, Nat.zero_le _⟩ dX1_read_84) hS (fun v0 w0 H locs hp hW hS => ?_)
              obtain ⟨rfl, rfl⟩ := hp
              refine rPut (k := 2) C hW hS (by decide) tm_Read rfl inX1 tyX1_ok nmX1 (by decide) fl_X1_18 rfl (by decide +kernel) (Nat.le_of_ble_eq_true rfl) (upd_Read_reason _) dX1_read_87 (fun H locs hW hS => ?_)
              have hW : Wd g (up2 M1049 10 2 (r1048)) H := hW
              have h := letE h
              generalize up2 M1049 10 2 (r1048) = M1051 at hW h
              refine lv_iinc (v := z + 2) (lv' := [(4, .int (z + 2)), (5, .int (1)), (0, rf g (1686)), (1, rf g (1696)), (2, .int (x)), (3, rf g (wB k))]) hx hb dX1_read_90 hl (k := 5) rfl rfl (by decide) rfl (fun ls hl => ?_)
              refine lv_goto (tgt := 112) hx hb dX1_read_93 (by decide) ?_
              refine lv_aload_n hx hb dX1_read_112 rfl (lv_at hl 2 rfl) ?_
              refine rGet (k := 2) C hW (by decide) tm_Read rfl inX1 (by decide) fl_X1_18 rfl dX1_read_113 ?_
              refine lv_if_eq (tgt := 120) hx hb dX1_read_116 (by decide) (fun c1052 => ?_) (fun c1052 => ?_)
              · rw [if_pos c1052] at h
                refine lv_goto (tgt := 7) hx hb dX1_read_120 (by decide) ?_
                exact ih M1051 x (z + 2) h _ _ hW hS ls (lv_sub hl [2, 3, 4, 5, 0] rfl)
              · rw [if_neg c1052] at h
                cases h
                exact rV C hr hlk dX1_read_119 hW hS rfl
set_option maxHeartbeats 4000000 in
set_option maxRecDepth 100000 in
theorem c_X1_read (l : Launch) (g : GD) (M : MM) (k : Nat) (x : Int32) (hk : k < 5) (r : Unit) (M2 : MM) (h : f_X1_read M k x = some (r, M2)) : Met l yX1_read (wm yX1_read cX1_read 6 none) (RM 4 106) (va_Pc [rf g (1686), rf g (1696), .int (x), rf g (wB k)] (WDp g M)) (QV g (fun w0 => M2 = w0)) 0 0 (AA g) := by
  refine mkM (by decide +kernel) (Nat.le_of_ble_eq_true rfl) ?_
  intro p e s m below meth c C hr hlk hW hS ls hl
  have hl : lv_has ls 6 [(0, rf g (1686)), (1, rf g (1696)), (2, .int (x)), (3, rf g (wB k))] := hl
  have hx := C.1
  have hb := C.2.1
  have hts := C.2.2.2.2.1
  unfold f_X1_read at h
  refine lv_aload_n hx hb dX1_read_0 rfl (lv_at hl 0 rfl) ?_
  obtain ⟨r1, M2, h3, h⟩ := bind2 h
  refine cBackV C.2.2.2.2.2.2.2.2 (runV (As := []) (rest := []) C hW hS (c_X1_begin l g M  _ _ h3) kV_X1_begin ml_X1_55 (by decide) tm_Read rfl rfl rfl hl.1 rfl (Nat.le_of_ble_eq_true rfl) ⟨Nat.le_of_ble_eq_true rfl, Nat.le_of_ble_eq_true rfl⟩ ⟨Nat.zero_le _, Nat.zero_le _⟩ dX1_read_1) hS (fun v0 H locs hp hW hS => ?_)
  subst hp
  refine lv_iconst (v := 0) hx hb dX1_read_4 (by decide) ?_
  refine lv_istore (lv' := [(4, .int (0)), (0, rf g (1686)), (1, rf g (1696)), (2, .int (x)), (3, rf g (wB k))]) hx hb dX1_read_5 hl (by decide) rfl (fun ls hl => ?_)
  exact t_X1_read_7 l g k hk   FU M2 x 0 _ _ h C hr hlk _ _ hW hS ls (lv_sub hl [1, 2, 3, 4, 0] rfl)
def f_X1_tell (M : MM) (x : Int32) : Option (Int32 × MM) := (if (x : Int32) = 0 then some (M (70 + 5) 0, M) else (if (x : Int32) = 1 then some (M 10 8, M) else (if (x : Int32) = 2 then some (M 10 9, M) else (if (x : Int32) = 3 then some (M 10 10, M) else (if (x : Int32) = 4 then some (M 10 11, M) else some ((M (70 + 5) 1) - (M (70 + 5) 0), M))))))
set_option maxHeartbeats 4000000 in
set_option maxRecDepth 100000 in
theorem c_X1_tell (l : Launch) (g : GD) (M : MM) (x : Int32) (r : Int32) (M2 : MM) (h : f_X1_tell M x = some (r, M2)) : Met l yX1_tell (wm yX1_tell cX1_tell 2 (some .int)) (RM 0 0) (va_Pc [rf g (1686), .int (x)] (WDp g M)) (QQ g (fun v w0 => v = .int r ∧ M2 = w0)) 0 0 (AA g) := by
  refine mkM (by decide +kernel) (Nat.le_of_ble_eq_true rfl) ?_
  intro p e s m below meth c C hr hlk hW hS ls hl
  have hl : lv_has ls 2 [(0, rf g (1686)), (1, .int (x))] := hl
  have hx := C.1
  have hb := C.2.1
  have hts := C.2.2.2.2.1
  unfold f_X1_tell at h
  refine lv_iload_n hx hb dX1_tell_0 rfl (lv_at hl 1 rfl) ?_
  by_cases c1 : (x : Int32) = 0
  · rw [if_pos c1] at h
    refine lv_tableIn (off := 35) (tgt := 36) hx hb dX1_tell_1 (by rw [c1]; decide) (by rw [c1]; decide) (by rw [c1]; rfl) (by decide) ?_
    refine lv_aload_n hx hb dX1_tell_36 rfl (lv_at hl 0 rfl) ?_
    refine rGet (k := 3) C hW (by decide) tm_Read rfl inX1 (by decide) fl_X1_24 rfl dX1_tell_37 ?_
    refine rGetN (k := 0) C hW LD_latest.lt LD_latest.cel rfl inX4 (by decide) fl_X1_128 rfl dX1_tell_40 ?_
    cases h
    exact rI C hr hlk dX1_tell_43 hW hS ⟨rfl, rfl⟩
  rw [if_neg c1] at h
  by_cases c2 : (x : Int32) = 1
  · rw [if_pos c2] at h
    refine lv_tableIn (off := 43) (tgt := 44) hx hb dX1_tell_1 (by rw [c2]; decide) (by rw [c2]; decide) (by rw [c2]; rfl) (by decide) ?_
    refine lv_aload_n hx hb dX1_tell_44 rfl (lv_at hl 0 rfl) ?_
    refine rGet (k := 8) C hW (by decide) tm_Read rfl inX1 (by decide) fl_X1_43 rfl dX1_tell_45 ?_
    cases h
    exact rI C hr hlk dX1_tell_48 hW hS ⟨rfl, rfl⟩
  rw [if_neg c2] at h
  by_cases c3 : (x : Int32) = 2
  · rw [if_pos c3] at h
    refine lv_tableIn (off := 48) (tgt := 49) hx hb dX1_tell_1 (by rw [c3]; decide) (by rw [c3]; decide) (by rw [c3]; rfl) (by decide) ?_
    refine lv_aload_n hx hb dX1_tell_49 rfl (lv_at hl 0 rfl) ?_
    refine rGet (k := 9) C hW (by decide) tm_Read rfl inX1 (by decide) fl_X1_46 rfl dX1_tell_50 ?_
    cases h
    exact rI C hr hlk dX1_tell_53 hW hS ⟨rfl, rfl⟩
  rw [if_neg c3] at h
  by_cases c4 : (x : Int32) = 3
  · rw [if_pos c4] at h
    refine lv_tableIn (off := 53) (tgt := 54) hx hb dX1_tell_1 (by rw [c4]; decide) (by rw [c4]; decide) (by rw [c4]; rfl) (by decide) ?_
    refine lv_aload_n hx hb dX1_tell_54 rfl (lv_at hl 0 rfl) ?_
    refine rGet (k := 10) C hW (by decide) tm_Read rfl inX1 (by decide) fl_X1_49 rfl dX1_tell_55 ?_
    cases h
    exact rI C hr hlk dX1_tell_58 hW hS ⟨rfl, rfl⟩
  rw [if_neg c4] at h
  by_cases c5 : (x : Int32) = 4
  · rw [if_pos c5] at h
    refine lv_tableIn (off := 58) (tgt := 59) hx hb dX1_tell_1 (by rw [c5]; decide) (by rw [c5]; decide) (by rw [c5]; rfl) (by decide) ?_
    refine lv_aload_n hx hb dX1_tell_59 rfl (lv_at hl 0 rfl) ?_
    refine rGet (k := 11) C hW (by decide) tm_Read rfl inX1 (by decide) fl_X1_52 rfl dX1_tell_60 ?_
    cases h
    exact rI C hr hlk dX1_tell_63 hW hS ⟨rfl, rfl⟩
  rw [if_neg c5] at h
  refine lv_tableOut (tgt := 64) hx hb dX1_tell_1 (by have nc1 := lv_neT (a := 0) c1 rfl; have nc2 := lv_neT (a := 1) c2 rfl; have nc3 := lv_neT (a := 2) c3 rfl; have nc4 := lv_neT (a := 3) c4 rfl; have nc5 := lv_neT (a := 4) c5 rfl; omega) (by decide) ?_
  refine lv_aload_n hx hb dX1_tell_64 rfl (lv_at hl 0 rfl) ?_
  refine rGet (k := 3) C hW (by decide) tm_Read rfl inX1 (by decide) fl_X1_24 rfl dX1_tell_65 ?_
  refine rGetN (k := 1) C hW LD_latest.lt LD_latest.cel rfl inX4 (by decide) fl_X1_137 rfl dX1_tell_68 ?_
  refine lv_aload_n hx hb dX1_tell_71 rfl (lv_at hl 0 rfl) ?_
  refine rGet (k := 3) C hW (by decide) tm_Read rfl inX1 (by decide) fl_X1_24 rfl dX1_tell_72 ?_
  refine rGetN (k := 0) C hW LD_latest.lt LD_latest.cel rfl inX4 (by decide) fl_X1_128 rfl dX1_tell_75 ?_
  refine lv_isub hx hb dX1_tell_78 ?_
  cases h
  exact rI C hr hlk dX1_tell_79 hW hS ⟨rfl, rfl⟩
def f_X10_buy (M : MM) (x : Int32) (y : Int32) : Option (Int32 × MM) := (bnd2 (f_X10_isMetal M x) fun r1 M2 => (if (r1 : Int32) = 0 then some (-1, M2) else (bnd2 (f_X10_isIn M2 y 1 100000) fun r5 M6 => (if (r5 : Int32) = 0 then some (-1, M6) else (bnd2 (f_X6_of M6 0 0 x) fun r9 M10 => (if ((r9) + (y) : Int32) ≤ (1000000 : Int32) then (bnd2 (f_X3_keep M10 0) fun r13 M14 => (bnd2 (f_X6_put M14 0 2 x y) fun r16 M17 => (bnd2 (f_X6_put M17 0 0 x y) fun r19 M20 => (bnd2 (f_X6_of M20 0 0 x) fun r22 M23 => some (r22, M23))))) else some (-3, M10)))))))
set_option maxHeartbeats 4000000 in
set_option maxRecDepth 100000 in
theorem c_X10_buy (l : Launch) (g : GD) (M : MM) (x : Int32) (y : Int32) (r : Int32) (M2 : MM) (h : f_X10_buy M x y = some (r, M2)) : Met l yX10_buy (wm yX10_buy cX10_buy 3 (some .int)) (RM 4 86) (va_Pc [rf g (0), .int (x), .int (y)] (WDp g M)) (QQ g (fun v w0 => v = .int r ∧ M2 = w0)) 0 0 (AA g) := by
  refine mkM (by decide +kernel) (Nat.le_of_ble_eq_true rfl) ?_
  intro p e s m below meth c C hr hlk hW hS ls hl
  have hl : lv_has ls 3 [(0, rf g (0)), (1, .int (x)), (2, .int (y))] := hl
  have hx := C.1
  have hb := C.2.1
  have hts := C.2.2.2.2.1
  have h05 : (0 : Nat) < 5 := by decide
  unfold f_X10_buy at h
  refine lv_iload_n hx hb dX10_buy_0 rfl (lv_at hl 1 rfl) ?_
  obtain ⟨r1, M2, h3, h⟩ := bind2 h
  refine cBack C.2.2.2.2.2.2.2.2 (runS (As := [.int (x)]) (rest := []) C hW hS (c_X10_isMetal l g M x _ _ h3) kS_X10_isMetal ml_X10_45 rfl hl.1 rfl (Nat.le_of_ble_eq_true rfl) ⟨Nat.le_of_ble_eq_true rfl, Nat.le_of_ble_eq_true rfl⟩ ⟨Nat.zero_le _, Nat.zero_le _⟩ dX10_buy_1) hS (fun v0 w0 H locs hp hW hS => ?_)
  obtain ⟨rfl, rfl, zr1⟩ := hp
  refine lv_if_eq (tgt := 17) hx hb dX10_buy_4 (by decide) (fun c4 => ?_) (fun c4 => ?_)
  · rw [if_pos c4] at h
    refine lv_iconst (v := -1) hx hb dX10_buy_17 (by decide) ?_
    cases h
    exact rI C hr hlk dX10_buy_18 hW hS ⟨rfl, rfl⟩
  · rw [if_neg c4] at h
    refine lv_iload_n hx hb dX10_buy_7 rfl (lv_at hl 2 rfl) ?_
    refine lv_iconst (v := 1) hx hb dX10_buy_8 (by decide) ?_
    refine lv_ldc hx hb C.2.2.2.1 (C.2.2.2.2.1 _ kc_X10_49) dX10_buy_9 ?_
    obtain ⟨r5, M6, h7, h⟩ := bind2 h
    refine cBack C.2.2.2.2.2.2.2.2 (runS (As := [.int (y), .int (1), .int (100000)]) (rest := []) C hW hS (c_X10_isIn l g M2 y 1 100000 _ _ h7) kS_X10_isIn ml_X10_50 rfl hl.1 rfl (Nat.le_of_ble_eq_true rfl) ⟨Nat.le_of_ble_eq_true rfl, Nat.le_of_ble_eq_true rfl⟩ ⟨Nat.zero_le _, Nat.zero_le _⟩ dX10_buy_11) hS (fun v0 w0 H locs hp hW hS => ?_)
    obtain ⟨rfl, rfl, zr5⟩ := hp
    refine lv_if_ne (tgt := 19) hx hb dX10_buy_14 (by decide) (fun c8 => ?_) (fun c8 => ?_)
    · rw [if_neg c8] at h
      refine lv_aload_n hx hb dX10_buy_19 rfl (lv_at hl 0 rfl) ?_
      refine rGet (k := 0) C hW (by decide) tm_BF rfl inX10 (by decide) fl_X10_10 rfl dX10_buy_20 ?_
      refine rGetN (k := 1) C hW (wB_lt (r := 0) h05 (by decide)) (tm_Works0 h05) rfl inX9 (by decide) fl_X10_54 rfl dX10_buy_23 ?_
      refine lv_iload_n hx hb dX10_buy_26 rfl (lv_at hl 1 rfl) ?_
      obtain ⟨r9, M10, h11, h⟩ := bind2 h
      refine cBack C.2.2.2.2.2.2.2.2 (runV (As := [.int (x)]) (rest := []) C hW hS (c_X6_of l g M6 (wB 0 + 2) 0 0 x (MX_stock h05) _ _ h11) kV_X6_of ml_X10_58 (MX_stock h05).lt (MX_stock h05).cel rfl rfl rfl hl.1 rfl (Nat.le_of_ble_eq_true rfl) ⟨Nat.le_of_ble_eq_true rfl, Nat.le_of_ble_eq_true rfl⟩ ⟨Nat.zero_le _, Nat.zero_le _⟩ dX10_buy_27) hS (fun v0 w0 H locs hp hW hS => ?_)
      obtain ⟨rfl, rfl⟩ := hp
      refine lv_iload_n hx hb dX10_buy_30 rfl (lv_at hl 2 rfl) ?_
      refine lv_iadd hx hb dX10_buy_31 ?_
      refine lv_ldc hx hb C.2.2.2.1 (C.2.2.2.2.1 _ kc_X10_64) dX10_buy_32 ?_
      refine lv_icmp_le (tgt := 40) hx hb dX10_buy_34 (by decide) (fun c12 => ?_) (fun c12 => ?_)
      · rw [if_pos c12] at h
        refine lv_aload_n hx hb dX10_buy_40 rfl (lv_at hl 0 rfl) ?_
        refine rGet (k := 1) C hW (by decide) tm_BF rfl inX10 (by decide) fl_X10_19 rfl dX10_buy_41 ?_
        refine lv_aload_n hx hb dX10_buy_44 rfl (lv_at hl 0 rfl) ?_
        refine rGet (k := 0) C hW (by decide) tm_BF rfl inX10 (by decide) fl_X10_10 rfl dX10_buy_45 ?_
        obtain ⟨r13, M14, h15, h⟩ := bind2 h
        refine cBackV C.2.2.2.2.2.2.2.2 (runV (As := [rf g (wB 0)]) (rest := []) C hW hS (c_X3_keep l g M10 0 h05 _ _ h15) kV_X3_keep ml_X10_65 (by decide) tm_Hist rfl rfl rfl hl.1 rfl (Nat.le_of_ble_eq_true rfl) ⟨Nat.le_of_ble_eq_true rfl, Nat.le_of_ble_eq_true rfl⟩ ⟨Nat.zero_le _, Nat.zero_le _⟩ dX10_buy_48) hS (fun v0 H locs hp hW hS => ?_)
        subst hp
        refine lv_aload_n hx hb dX10_buy_51 rfl (lv_at hl 0 rfl) ?_
        refine rGet (k := 0) C hW (by decide) tm_BF rfl inX10 (by decide) fl_X10_10 rfl dX10_buy_52 ?_
        refine rGetN (k := 0) C hW (wB_lt (r := 0) h05 (by decide)) (tm_Works0 h05) rfl inX9 (by decide) fl_X10_69 rfl dX10_buy_55 ?_
        refine lv_iload_n hx hb dX10_buy_58 rfl (lv_at hl 1 rfl) ?_
        refine lv_iload_n hx hb dX10_buy_59 rfl (lv_at hl 2 rfl) ?_
        obtain ⟨r16, M17, h18, h⟩ := bind2 h
        refine cBackV C.2.2.2.2.2.2.2.2 (runV (As := [.int (x), .int (y)]) (rest := []) C hW hS (c_X6_put l g M14 (wB 0 + 1) 0 2 x y (MX_bought h05) _ _ h18) kV_X6_put ml_X10_72 (MX_bought h05).lt (MX_bought h05).cel rfl rfl rfl hl.1 rfl (Nat.le_of_ble_eq_true rfl) ⟨Nat.le_of_ble_eq_true rfl, Nat.le_of_ble_eq_true rfl⟩ ⟨Nat.zero_le _, Nat.zero_le _⟩ dX10_buy_60) hS (fun v0 H locs hp hW hS => ?_)
        subst hp
        refine lv_aload_n hx hb dX10_buy_63 rfl (lv_at hl 0 rfl) ?_
        refine rGet (k := 0) C hW (by decide) tm_BF rfl inX10 (by decide) fl_X10_10 rfl dX10_buy_64 ?_
        refine rGetN (k := 1) C hW (wB_lt (r := 0) h05 (by decide)) (tm_Works0 h05) rfl inX9 (by decide) fl_X10_54 rfl dX10_buy_67 ?_
        refine lv_iload_n hx hb dX10_buy_70 rfl (lv_at hl 1 rfl) ?_
        refine lv_iload_n hx hb dX10_buy_71 rfl (lv_at hl 2 rfl) ?_
        obtain ⟨r19, M20, h21, h⟩ := bind2 h
        refine cBackV C.2.2.2.2.2.2.2.2 (runV (As := [.int (x), .int (y)]) (rest := []) C hW hS (c_X6_put l g M17 (wB 0 + 2) 0 0 x y (MX_stock h05) _ _ h21) kV_X6_put ml_X10_72 (MX_stock h05).lt (MX_stock h05).cel rfl rfl rfl hl.1 rfl (Nat.le_of_ble_eq_true rfl) ⟨Nat.le_of_ble_eq_true rfl, Nat.le_of_ble_eq_true rfl⟩ ⟨Nat.zero_le _, Nat.zero_le _⟩ dX10_buy_72) hS (fun v0 H locs hp hW hS => ?_)
        subst hp
        refine lv_aload_n hx hb dX10_buy_75 rfl (lv_at hl 0 rfl) ?_
        refine rGet (k := 0) C hW (by decide) tm_BF rfl inX10 (by decide) fl_X10_10 rfl dX10_buy_76 ?_
        refine rGetN (k := 1) C hW (wB_lt (r := 0) h05 (by decide)) (tm_Works0 h05) rfl inX9 (by decide) fl_X10_54 rfl dX10_buy_79 ?_
        refine lv_iload_n hx hb dX10_buy_82 rfl (lv_at hl 1 rfl) ?_
        obtain ⟨r22, M23, h24, h⟩ := bind2 h
        refine cBack C.2.2.2.2.2.2.2.2 (runV (As := [.int (x)]) (rest := []) C hW hS (c_X6_of l g M20 (wB 0 + 2) 0 0 x (MX_stock h05) _ _ h24) kV_X6_of ml_X10_58 (MX_stock h05).lt (MX_stock h05).cel rfl rfl rfl hl.1 rfl (Nat.le_of_ble_eq_true rfl) ⟨Nat.le_of_ble_eq_true rfl, Nat.le_of_ble_eq_true rfl⟩ ⟨Nat.zero_le _, Nat.zero_le _⟩ dX10_buy_83) hS (fun v0 w0 H locs hp hW hS => ?_)
        obtain ⟨rfl, rfl⟩ := hp
        cases h
        exact rI C hr hlk dX10_buy_86 hW hS ⟨rfl, rfl⟩
      · rw [if_neg c12] at h
        refine lv_bipush (v := -3) hx hb dX10_buy_37 (by decide) ?_
        cases h
        exact rI C hr hlk dX10_buy_39 hW hS ⟨rfl, rfl⟩
    · rw [if_pos c8] at h
      refine lv_iconst (v := -1) hx hb dX10_buy_17 (by decide) ?_
      cases h
      exact rI C hr hlk dX10_buy_18 hW hS ⟨rfl, rfl⟩
def f_X10_charge (M : MM) (x : Int32) (y : Int32) : Option (Int32 × MM) := (bnd2 (f_X10_isMetal M x) fun r1 M2 => (if (r1 : Int32) = 0 then some (-1, M2) else (bnd2 (f_X10_isIn M2 y 1 20000) fun r5 M6 => (if (r5 : Int32) = 0 then some (-1, M6) else (bnd2 (f_X6_of M6 0 0 x) fun r9 M10 => (if (y : Int32) ≤ (r9 : Int32) then (bnd2 (f_X6_weight M10 0 6) fun r13 M14 => (if ((r13) + (y) : Int32) ≤ (20000 : Int32) then (bnd2 (f_X3_keep M14 0) fun r17 M18 => (bnd2 (f_X6_put M18 0 0 x (-(y))) fun r20 M21 => (bnd2 (f_X6_put M21 0 6 x y) fun r23 M24 => (bnd2 (f_X6_weight M24 0 6) fun r26 M27 => some (r26, M27))))) else some (-3, M14))) else some (-2, M10)))))))
set_option maxHeartbeats 4000000 in
set_option maxRecDepth 100000 in
theorem c_X10_charge (l : Launch) (g : GD) (M : MM) (x : Int32) (y : Int32) (r : Int32) (M2 : MM) (h : f_X10_charge M x y = some (r, M2)) : Met l yX10_charge (wm yX10_charge cX10_charge 3 (some .int)) (RM 4 86) (va_Pc [rf g (0), .int (x), .int (y)] (WDp g M)) (QQ g (fun v w0 => v = .int r ∧ M2 = w0)) 0 0 (AA g) := by
  refine mkM (by decide +kernel) (Nat.le_of_ble_eq_true rfl) ?_
  intro p e s m below meth c C hr hlk hW hS ls hl
  have hl : lv_has ls 3 [(0, rf g (0)), (1, .int (x)), (2, .int (y))] := hl
  have hx := C.1
  have hb := C.2.1
  have hts := C.2.2.2.2.1
  have h05 : (0 : Nat) < 5 := by decide
  unfold f_X10_charge at h
  refine lv_iload_n hx hb dX10_charge_0 rfl (lv_at hl 1 rfl) ?_
  obtain ⟨r1, M2, h3, h⟩ := bind2 h
  refine cBack C.2.2.2.2.2.2.2.2 (runS (As := [.int (x)]) (rest := []) C hW hS (c_X10_isMetal l g M x _ _ h3) kS_X10_isMetal ml_X10_45 rfl hl.1 rfl (Nat.le_of_ble_eq_true rfl) ⟨Nat.le_of_ble_eq_true rfl, Nat.le_of_ble_eq_true rfl⟩ ⟨Nat.zero_le _, Nat.zero_le _⟩ dX10_charge_1) hS (fun v0 w0 H locs hp hW hS => ?_)
  obtain ⟨rfl, rfl, zr1⟩ := hp
  refine lv_if_eq (tgt := 18) hx hb dX10_charge_4 (by decide) (fun c4 => ?_) (fun c4 => ?_)
  · rw [if_pos c4] at h
    refine lv_iconst (v := -1) hx hb dX10_charge_18 (by decide) ?_
    cases h
    exact rI C hr hlk dX10_charge_19 hW hS ⟨rfl, rfl⟩
  · rw [if_neg c4] at h
    refine lv_iload_n hx hb dX10_charge_7 rfl (lv_at hl 2 rfl) ?_
    refine lv_iconst (v := 1) hx hb dX10_charge_8 (by decide) ?_
    refine lv_sipush (v := 20000) hx hb dX10_charge_9 (by decide) ?_
    obtain ⟨r5, M6, h7, h⟩ := bind2 h
    refine cBack C.2.2.2.2.2.2.2.2 (runS (As := [.int (y), .int (1), .int (20000)]) (rest := []) C hW hS (c_X10_isIn l g M2 y 1 20000 _ _ h7) kS_X10_isIn ml_X10_50 rfl hl.1 rfl (Nat.le_of_ble_eq_true rfl) ⟨Nat.le_of_ble_eq_true rfl, Nat.le_of_ble_eq_true rfl⟩ ⟨Nat.zero_le _, Nat.zero_le _⟩ dX10_charge_12) hS (fun v0 w0 H locs hp hW hS => ?_)
    obtain ⟨rfl, rfl, zr5⟩ := hp
    refine lv_if_ne (tgt := 20) hx hb dX10_charge_15 (by decide) (fun c8 => ?_) (fun c8 => ?_)
    · rw [if_neg c8] at h
      refine lv_aload_n hx hb dX10_charge_20 rfl (lv_at hl 0 rfl) ?_
      refine rGet (k := 0) C hW (by decide) tm_BF rfl inX10 (by decide) fl_X10_10 rfl dX10_charge_21 ?_
      refine rGetN (k := 1) C hW (wB_lt (r := 0) h05 (by decide)) (tm_Works0 h05) rfl inX9 (by decide) fl_X10_54 rfl dX10_charge_24 ?_
      refine lv_iload_n hx hb dX10_charge_27 rfl (lv_at hl 1 rfl) ?_
      obtain ⟨r9, M10, h11, h⟩ := bind2 h
      refine cBack C.2.2.2.2.2.2.2.2 (runV (As := [.int (x)]) (rest := []) C hW hS (c_X6_of l g M6 (wB 0 + 2) 0 0 x (MX_stock h05) _ _ h11) kV_X6_of ml_X10_58 (MX_stock h05).lt (MX_stock h05).cel rfl rfl rfl hl.1 rfl (Nat.le_of_ble_eq_true rfl) ⟨Nat.le_of_ble_eq_true rfl, Nat.le_of_ble_eq_true rfl⟩ ⟨Nat.zero_le _, Nat.zero_le _⟩ dX10_charge_28) hS (fun v0 w0 H locs hp hW hS => ?_)
      obtain ⟨rfl, rfl⟩ := hp
      refine lv_iload_n hx hb dX10_charge_31 rfl (lv_at hl 2 rfl) ?_
      refine lv_icmp_ge (tgt := 38) hx hb dX10_charge_32 (by decide) (fun c12 => ?_) (fun c12 => ?_)
      · rw [if_pos c12] at h
        refine lv_aload_n hx hb dX10_charge_38 rfl (lv_at hl 0 rfl) ?_
        refine rGet (k := 0) C hW (by decide) tm_BF rfl inX10 (by decide) fl_X10_10 rfl dX10_charge_39 ?_
        refine rGetN (k := 3) C hW (wB_lt (r := 0) h05 (by decide)) (tm_Works0 h05) rfl inX9 (by decide) fl_X10_76 rfl dX10_charge_42 ?_
        obtain ⟨r13, M14, h15, h⟩ := bind2 h
        refine cBack C.2.2.2.2.2.2.2.2 (runV (As := []) (rest := []) C hW hS (c_X6_weight l g M10 (wB 0 + 4) 0 6 (MX_melt h05) _ _ h15) kV_X6_weight ml_X10_79 (MX_melt h05).lt (MX_melt h05).cel rfl rfl rfl hl.1 rfl (Nat.le_of_ble_eq_true rfl) ⟨Nat.le_of_ble_eq_true rfl, Nat.le_of_ble_eq_true rfl⟩ ⟨Nat.zero_le _, Nat.zero_le _⟩ dX10_charge_45) hS (fun v0 w0 H locs hp hW hS => ?_)
        obtain ⟨rfl, rfl⟩ := hp
        refine lv_iload_n hx hb dX10_charge_48 rfl (lv_at hl 2 rfl) ?_
        refine lv_iadd hx hb dX10_charge_49 ?_
        refine lv_sipush (v := 20000) hx hb dX10_charge_50 (by decide) ?_
        refine lv_icmp_le (tgt := 59) hx hb dX10_charge_53 (by decide) (fun c16 => ?_) (fun c16 => ?_)
        · rw [if_pos c16] at h
          refine lv_aload_n hx hb dX10_charge_59 rfl (lv_at hl 0 rfl) ?_
          refine rGet (k := 1) C hW (by decide) tm_BF rfl inX10 (by decide) fl_X10_19 rfl dX10_charge_60 ?_
          refine lv_aload_n hx hb dX10_charge_63 rfl (lv_at hl 0 rfl) ?_
          refine rGet (k := 0) C hW (by decide) tm_BF rfl inX10 (by decide) fl_X10_10 rfl dX10_charge_64 ?_
          obtain ⟨r17, M18, h19, h⟩ := bind2 h
          refine cBackV C.2.2.2.2.2.2.2.2 (runV (As := [rf g (wB 0)]) (rest := []) C hW hS (c_X3_keep l g M14 0 h05 _ _ h19) kV_X3_keep ml_X10_65 (by decide) tm_Hist rfl rfl rfl hl.1 rfl (Nat.le_of_ble_eq_true rfl) ⟨Nat.le_of_ble_eq_true rfl, Nat.le_of_ble_eq_true rfl⟩ ⟨Nat.zero_le _, Nat.zero_le _⟩ dX10_charge_67) hS (fun v0 H locs hp hW hS => ?_)
          subst hp
          refine lv_aload_n hx hb dX10_charge_70 rfl (lv_at hl 0 rfl) ?_
          refine rGet (k := 0) C hW (by decide) tm_BF rfl inX10 (by decide) fl_X10_10 rfl dX10_charge_71 ?_
          refine rGetN (k := 1) C hW (wB_lt (r := 0) h05 (by decide)) (tm_Works0 h05) rfl inX9 (by decide) fl_X10_54 rfl dX10_charge_74 ?_
          refine lv_iload_n hx hb dX10_charge_77 rfl (lv_at hl 1 rfl) ?_
          refine lv_iload_n hx hb dX10_charge_78 rfl (lv_at hl 2 rfl) ?_
          refine lv_ineg hx hb dX10_charge_79 ?_
          obtain ⟨r20, M21, h22, h⟩ := bind2 h
          refine cBackV C.2.2.2.2.2.2.2.2 (runV (As := [.int (x), .int (-(y))]) (rest := []) C hW hS (c_X6_put l g M18 (wB 0 + 2) 0 0 x (-(y)) (MX_stock h05) _ _ h22) kV_X6_put ml_X10_72 (MX_stock h05).lt (MX_stock h05).cel rfl rfl rfl hl.1 rfl (Nat.le_of_ble_eq_true rfl) ⟨Nat.le_of_ble_eq_true rfl, Nat.le_of_ble_eq_true rfl⟩ ⟨Nat.zero_le _, Nat.zero_le _⟩ dX10_charge_80) hS (fun v0 H locs hp hW hS => ?_)
          subst hp
          refine lv_aload_n hx hb dX10_charge_83 rfl (lv_at hl 0 rfl) ?_
          refine rGet (k := 0) C hW (by decide) tm_BF rfl inX10 (by decide) fl_X10_10 rfl dX10_charge_84 ?_
          refine rGetN (k := 3) C hW (wB_lt (r := 0) h05 (by decide)) (tm_Works0 h05) rfl inX9 (by decide) fl_X10_76 rfl dX10_charge_87 ?_
          refine lv_iload_n hx hb dX10_charge_90 rfl (lv_at hl 1 rfl) ?_
          refine lv_iload_n hx hb dX10_charge_91 rfl (lv_at hl 2 rfl) ?_
          obtain ⟨r23, M24, h25, h⟩ := bind2 h
          refine cBackV C.2.2.2.2.2.2.2.2 (runV (As := [.int (x), .int (y)]) (rest := []) C hW hS (c_X6_put l g M21 (wB 0 + 4) 0 6 x y (MX_melt h05) _ _ h25) kV_X6_put ml_X10_72 (MX_melt h05).lt (MX_melt h05).cel rfl rfl rfl hl.1 rfl (Nat.le_of_ble_eq_true rfl) ⟨Nat.le_of_ble_eq_true rfl, Nat.le_of_ble_eq_true rfl⟩ ⟨Nat.zero_le _, Nat.zero_le _⟩ dX10_charge_92) hS (fun v0 H locs hp hW hS => ?_)
          subst hp
          refine lv_aload_n hx hb dX10_charge_95 rfl (lv_at hl 0 rfl) ?_
          refine rGet (k := 0) C hW (by decide) tm_BF rfl inX10 (by decide) fl_X10_10 rfl dX10_charge_96 ?_
          refine rGetN (k := 3) C hW (wB_lt (r := 0) h05 (by decide)) (tm_Works0 h05) rfl inX9 (by decide) fl_X10_76 rfl dX10_charge_99 ?_
          obtain ⟨r26, M27, h28, h⟩ := bind2 h
          refine cBack C.2.2.2.2.2.2.2.2 (runV (As := []) (rest := []) C hW hS (c_X6_weight l g M24 (wB 0 + 4) 0 6 (MX_melt h05) _ _ h28) kV_X6_weight ml_X10_79 (MX_melt h05).lt (MX_melt h05).cel rfl rfl rfl hl.1 rfl (Nat.le_of_ble_eq_true rfl) ⟨Nat.le_of_ble_eq_true rfl, Nat.le_of_ble_eq_true rfl⟩ ⟨Nat.zero_le _, Nat.zero_le _⟩ dX10_charge_102) hS (fun v0 w0 H locs hp hW hS => ?_)
          obtain ⟨rfl, rfl⟩ := hp
          cases h
          exact rI C hr hlk dX10_charge_105 hW hS ⟨rfl, rfl⟩
        · rw [if_neg c16] at h
          refine lv_bipush (v := -3) hx hb dX10_charge_56 (by decide) ?_
          cases h
          exact rI C hr hlk dX10_charge_58 hW hS ⟨rfl, rfl⟩
      · rw [if_neg c12] at h
        refine lv_bipush (v := -2) hx hb dX10_charge_35 (by decide) ?_
        cases h
        exact rI C hr hlk dX10_charge_37 hW hS ⟨rfl, rfl⟩
    · rw [if_pos c8] at h
      refine lv_iconst (v := -1) hx hb dX10_charge_18 (by decide) ?_
      cases h
      exact rI C hr hlk dX10_charge_19 hW hS ⟨rfl, rfl⟩
def f_X10_scrap (M : MM) (x : Int32) : Option (Int32 × MM) := (bnd2 (f_X2_at M 0 x) fun r1 M2 => optE r1 (some (-1, M2)) (fun j4 => (bnd2 (f_X6_weight M2 0 6) fun r5 M6 => (bnd2 (f_X6_weight M6 0 (9 + 3 * j4)) fun r8 M9 => (if ((r5) + (r8) : Int32) ≤ (20000 : Int32) then (bnd2 (f_X3_keep M9 0) fun r12 M13 => (bnd2 (f_X9_meltDown M13 0 j4) fun r15 M16 => (bnd2 (f_X2_remove M16 0 x) fun r18 M19 => (bnd2 (f_X6_weight M19 0 6) fun r21 M22 => some (r21, M22))))) else some (-3, M9))))))
set_option maxHeartbeats 4000000 in
set_option maxRecDepth 100000 in
theorem c_X10_scrap (l : Launch) (g : GD) (M : MM) (x : Int32) (r : Int32) (M2 : MM) (h : f_X10_scrap M x = some (r, M2)) : Met l yX10_scrap (wm yX10_scrap cX10_scrap 3 (some .int)) (RM 4 87) (va_Pc [rf g (0), .int (x)] (WDp g M)) (QQ g (fun v w0 => v = .int r ∧ M2 = w0)) 0 0 (AA g) := by
  refine mkM (by decide +kernel) (Nat.le_of_ble_eq_true rfl) ?_
  intro p e s m below meth c C hr hlk hW hS ls hl
  have hl : lv_has ls 3 [(0, rf g (0)), (1, .int (x))] := hl
  have hx := C.1
  have hb := C.2.1
  have hts := C.2.2.2.2.1
  have h05 : (0 : Nat) < 5 := by decide
  unfold f_X10_scrap at h
  refine lv_aload_n hx hb dX10_scrap_0 rfl (lv_at hl 0 rfl) ?_
  refine rGet (k := 0) C hW (by decide) tm_BF rfl inX10 (by decide) fl_X10_10 rfl dX10_scrap_1 ?_
  refine rGetN (k := 4) C hW (wB_lt (r := 0) h05 (by decide)) (tm_Works0 h05) rfl inX9 (by decide) fl_X10_83 rfl dX10_scrap_4 ?_
  refine lv_iload_n hx hb dX10_scrap_7 rfl (lv_at hl 1 rfl) ?_
  obtain ⟨r1, M2, h3, h⟩ := bind2 h
  refine cBack C.2.2.2.2.2.2.2.2 (runV (As := [.int (x)]) (rest := []) C hW hS (c_X2_at l g M 0 x h05 _ _ h3) kV_X2_at ml_X10_87 (wB_lt h05 (by decide)) (tm_Heap h05) rfl rfl rfl hl.1 rfl (Nat.le_of_ble_eq_true rfl) ⟨Nat.le_of_ble_eq_true rfl, Nat.le_of_ble_eq_true rfl⟩ ⟨Nat.zero_le _, Nat.zero_le _⟩ dX10_scrap_8) hS (fun v0 w0 H locs hp hW hS => ?_)
  obtain ⟨rfl, rfl, br1⟩ := hp
  rcases r1 with _ | j4
  · have h := optN h
    refine rAstNn (lv' := [(2, .null), (0, rf g (0)), (1, .int (x))]) C dX10_scrap_11 rfl hl (by decide) rfl (fun ls hl => ?_)
    refine rAldNn C dX10_scrap_12 rfl (lv_at hl 0 rfl) ?_
    refine lv_ifnonnullN hx hb dX10_scrap_13 ?_
    refine lv_iconst (v := -1) hx hb dX10_scrap_16 (by decide) ?_
    cases h
    exact rI C hr hlk dX10_scrap_17 hW hS ⟨rfl, rfl⟩
  · have h := optS h
    have hj4 := br1 j4 rfl
    refine lv_astore_n (lv' := [(2, rf g (wB 0 + (7 + 2 * j4))), (0, rf g (0)), (1, .int (x))]) hx hb dX10_scrap_11 rfl hl (by decide) rfl (fun ls hl => ?_)
    refine lv_aload_n hx hb dX10_scrap_12 rfl (lv_at hl 0 rfl) ?_
    refine lv_ifnonnull (tgt := 18) hx hb dX10_scrap_13 (by decide) ?_
    refine lv_aload_n hx hb dX10_scrap_18 rfl (lv_at hl 1 rfl) ?_
    refine rGet (k := 0) C hW (by decide) tm_BF rfl inX10 (by decide) fl_X10_10 rfl dX10_scrap_19 ?_
    refine rGetN (k := 3) C hW (wB_lt (r := 0) h05 (by decide)) (tm_Works0 h05) rfl inX9 (by decide) fl_X10_76 rfl dX10_scrap_22 ?_
    obtain ⟨r5, M6, h7, h⟩ := bind2 h
    refine cBack C.2.2.2.2.2.2.2.2 (runV (As := []) (rest := []) C hW hS (c_X6_weight l g M2 (wB 0 + 4) 0 6 (MX_melt h05) _ _ h7) kV_X6_weight ml_X10_79 (MX_melt h05).lt (MX_melt h05).cel rfl rfl rfl hl.1 rfl (Nat.le_of_ble_eq_true rfl) ⟨Nat.le_of_ble_eq_true rfl, Nat.le_of_ble_eq_true rfl⟩ ⟨Nat.zero_le _, Nat.zero_le _⟩ dX10_scrap_25) hS (fun v0 w0 H locs hp hW hS => ?_)
    obtain ⟨rfl, rfl⟩ := hp
    refine lv_aload_n hx hb dX10_scrap_28 rfl (lv_at hl 0 rfl) ?_
    refine rGetN (k := 0) C hW (wB_lt h05 (by have := hj4; omega)) (tm_Lot h05 hj4) rfl inX5 (by decide) fl_X10_93 rfl dX10_scrap_29 ?_
    obtain ⟨r8, M9, h10, h⟩ := bind2 h
    refine cBack C.2.2.2.2.2.2.2.2 (runV (As := []) (rest := [.int (r5)]) C hW hS (c_X6_weight l g M6 (wB 0 + (8 + 2 * j4)) 0 (9 + 3 * j4) (MX_lot h05 hj4) _ _ h10) kV_X6_weight ml_X10_79 (MX_lot h05 hj4).lt (MX_lot h05 hj4).cel rfl rfl rfl hl.1 rfl (Nat.le_of_ble_eq_true rfl) ⟨Nat.le_of_ble_eq_true rfl, Nat.le_of_ble_eq_true rfl⟩ ⟨Nat.zero_le _, Nat.zero_le _⟩ dX10_scrap_32) hS (fun v0 w0 H locs hp hW hS => ?_)
    obtain ⟨rfl, rfl⟩ := hp
    refine lv_iadd hx hb dX10_scrap_35 ?_
    refine lv_sipush (v := 20000) hx hb dX10_scrap_36 (by decide) ?_
    refine lv_icmp_le (tgt := 45) hx hb dX10_scrap_39 (by decide) (fun c11 => ?_) (fun c11 => ?_)
    · rw [if_pos c11] at h
      refine lv_aload_n hx hb dX10_scrap_45 rfl (lv_at hl 1 rfl) ?_
      refine rGet (k := 1) C hW (by decide) tm_BF rfl inX10 (by decide) fl_X10_19 rfl dX10_scrap_46 ?_
      refine lv_aload_n hx hb dX10_scrap_49 rfl (lv_at hl 1 rfl) ?_
      refine rGet (k := 0) C hW (by decide) tm_BF rfl inX10 (by decide) fl_X10_10 rfl dX10_scrap_50 ?_
      obtain ⟨r12, M13, h14, h⟩ := bind2 h
      refine cBackV C.2.2.2.2.2.2.2.2 (runV (As := [rf g (wB 0)]) (rest := []) C hW hS (c_X3_keep l g M9 0 h05 _ _ h14) kV_X3_keep ml_X10_65 (by decide) tm_Hist rfl rfl rfl hl.1 rfl (Nat.le_of_ble_eq_true rfl) ⟨Nat.le_of_ble_eq_true rfl, Nat.le_of_ble_eq_true rfl⟩ ⟨Nat.zero_le _, Nat.zero_le _⟩ dX10_scrap_53) hS (fun v0 H locs hp hW hS => ?_)
      subst hp
      refine lv_aload_n hx hb dX10_scrap_56 rfl (lv_at hl 1 rfl) ?_
      refine rGet (k := 0) C hW (by decide) tm_BF rfl inX10 (by decide) fl_X10_10 rfl dX10_scrap_57 ?_
      refine lv_aload_n hx hb dX10_scrap_60 rfl (lv_at hl 0 rfl) ?_
      obtain ⟨r15, M16, h17, h⟩ := bind2 h
      refine cBackV C.2.2.2.2.2.2.2.2 (runV (As := [rf g (wB 0 + (7 + 2 * j4))]) (rest := []) C hW hS (c_X9_meltDown l g M13 0 j4 h05 hj4 _ _ h17) kV_X9_meltDown ml_X10_98 (wB_lt (r := 0) h05 (by decide)) (tm_Works0 h05) rfl rfl rfl hl.1 rfl (Nat.le_of_ble_eq_true rfl) ⟨Nat.le_of_ble_eq_true rfl, Nat.le_of_ble_eq_true rfl⟩ ⟨Nat.zero_le _, Nat.zero_le _⟩ dX10_scrap_61) hS (fun v0 H locs hp hW hS => ?_)
      subst hp
      refine lv_aload_n hx hb dX10_scrap_64 rfl (lv_at hl 1 rfl) ?_
      refine rGet (k := 0) C hW (by decide) tm_BF rfl inX10 (by decide) fl_X10_10 rfl dX10_scrap_65 ?_
      refine rGetN (k := 4) C hW (wB_lt (r := 0) h05 (by decide)) (tm_Works0 h05) rfl inX9 (by decide) fl_X10_83 rfl dX10_scrap_68 ?_
      refine lv_iload_n hx hb dX10_scrap_71 rfl (lv_at hl 2 rfl) ?_
      obtain ⟨r18, M19, h20, h⟩ := bind2 h
      refine cBackV C.2.2.2.2.2.2.2.2 (runV (As := [.int (x)]) (rest := []) C hW hS (c_X2_remove l g M16 0 x h05 _ _ h20) kV_X2_remove ml_X10_102 (wB_lt h05 (by decide)) (tm_Heap h05) rfl rfl rfl hl.1 rfl (Nat.le_of_ble_eq_true rfl) ⟨Nat.le_of_ble_eq_true rfl, Nat.le_of_ble_eq_true rfl⟩ ⟨Nat.zero_le _, Nat.zero_le _⟩ dX10_scrap_72) hS (fun v0 H locs hp hW hS => ?_)
      subst hp
      refine lv_aload_n hx hb dX10_scrap_75 rfl (lv_at hl 1 rfl) ?_
      refine rGet (k := 0) C hW (by decide) tm_BF rfl inX10 (by decide) fl_X10_10 rfl dX10_scrap_76 ?_
      refine rGetN (k := 3) C hW (wB_lt (r := 0) h05 (by decide)) (tm_Works0 h05) rfl inX9 (by decide) fl_X10_76 rfl dX10_scrap_79 ?_
      obtain ⟨r21, M22, h23, h⟩ := bind2 h
      refine cBack C.2.2.2.2.2.2.2.2 (runV (As := []) (rest := []) C hW hS (c_X6_weight l g M19 (wB 0 + 4) 0 6 (MX_melt h05) _ _ h23) kV_X6_weight ml_X10_79 (MX_melt h05).lt (MX_melt h05).cel rfl rfl rfl hl.1 rfl (Nat.le_of_ble_eq_true rfl) ⟨Nat.le_of_ble_eq_true rfl, Nat.le_of_ble_eq_true rfl⟩ ⟨Nat.zero_le _, Nat.zero_le _⟩ dX10_scrap_82) hS (fun v0 w0 H locs hp hW hS => ?_)
      obtain ⟨rfl, rfl⟩ := hp
      cases h
      exact rI C hr hlk dX10_scrap_85 hW hS ⟨rfl, rfl⟩
    · rw [if_neg c11] at h
      refine lv_bipush (v := -3) hx hb dX10_scrap_42 (by decide) ?_
      cases h
      exact rI C hr hlk dX10_scrap_44 hW hS ⟨rfl, rfl⟩
def f_X10_lot (M : MM) (x : Int32) (y : Int32) : Option (Int32 × MM) := (bnd2 (f_X2_at M 0 x) fun r1 M2 => optE r1 (some (-1, M2)) (fun j4 => (bnd2 (f_X10_isIn M2 y 0 4) fun r5 M6 => (if (r5 : Int32) = 0 then some (-1, M6) else (if (y : Int32) = (4 : Int32) then some (M6 0 (11 + 3 * j4), M6) else (bnd2 (f_X6_tell M6 0 (9 + 3 * j4) y) fun r10 M11 => some (r10, M11)))))))
set_option maxHeartbeats 4000000 in
set_option maxRecDepth 100000 in
theorem c_X10_lot (l : Launch) (g : GD) (M : MM) (x : Int32) (y : Int32) (r : Int32) (M2 : MM) (h : f_X10_lot M x y = some (r, M2)) : Met l yX10_lot (wm yX10_lot cX10_lot 4 (some .int)) (RM 3 62) (va_Pc [rf g (0), .int (x), .int (y)] (WDp g M)) (QQ g (fun v w0 => v = .int r ∧ M2 = w0)) 0 0 (AA g) := by
  refine mkM (by decide +kernel) (Nat.le_of_ble_eq_true rfl) ?_
  intro p e s m below meth c C hr hlk hW hS ls hl
  have hl : lv_has ls 4 [(0, rf g (0)), (1, .int (x)), (2, .int (y))] := hl
  have hx := C.1
  have hb := C.2.1
  have hts := C.2.2.2.2.1
  have h05 : (0 : Nat) < 5 := by decide
  unfold f_X10_lot at h
  refine lv_aload_n hx hb dX10_lot_0 rfl (lv_at hl 0 rfl) ?_
  refine rGet (k := 0) C hW (by decide) tm_BF rfl inX10 (by decide) fl_X10_10 rfl dX10_lot_1 ?_
  refine rGetN (k := 4) C hW (wB_lt (r := 0) h05 (by decide)) (tm_Works0 h05) rfl inX9 (by decide) fl_X10_83 rfl dX10_lot_4 ?_
  refine lv_iload_n hx hb dX10_lot_7 rfl (lv_at hl 1 rfl) ?_
  obtain ⟨r1, M2, h3, h⟩ := bind2 h
  refine cBack C.2.2.2.2.2.2.2.2 (runV (As := [.int (x)]) (rest := []) C hW hS (c_X2_at l g M 0 x h05 _ _ h3) kV_X2_at ml_X10_87 (wB_lt h05 (by decide)) (tm_Heap h05) rfl rfl rfl hl.1 rfl (Nat.le_of_ble_eq_true rfl) ⟨Nat.le_of_ble_eq_true rfl, Nat.le_of_ble_eq_true rfl⟩ ⟨Nat.zero_le _, Nat.zero_le _⟩ dX10_lot_8) hS (fun v0 w0 H locs hp hW hS => ?_)
  obtain ⟨rfl, rfl, br1⟩ := hp
  rcases r1 with _ | j4
  · have h := optN h
    refine rAstNn (lv' := [(3, .null), (0, rf g (0)), (1, .int (x)), (2, .int (y))]) C dX10_lot_11 rfl hl (by decide) rfl (fun ls hl => ?_)
    refine rAldNn C dX10_lot_12 rfl (lv_at hl 0 rfl) ?_
    refine lv_ifnullN (tgt := 25) hx hb dX10_lot_13 (by decide) ?_
    refine lv_iconst (v := -1) hx hb dX10_lot_25 (by decide) ?_
    cases h
    exact rI C hr hlk dX10_lot_26 hW hS ⟨rfl, rfl⟩
  · have h := optS h
    have hj4 := br1 j4 rfl
    refine lv_astore_n (lv' := [(3, rf g (wB 0 + (7 + 2 * j4))), (0, rf g (0)), (1, .int (x)), (2, .int (y))]) hx hb dX10_lot_11 rfl hl (by decide) rfl (fun ls hl => ?_)
    refine lv_aload_n hx hb dX10_lot_12 rfl (lv_at hl 0 rfl) ?_
    refine lv_ifnull hx hb dX10_lot_13 ?_
    refine lv_iload_n hx hb dX10_lot_16 rfl (lv_at hl 3 rfl) ?_
    refine lv_iconst (v := 0) hx hb dX10_lot_17 (by decide) ?_
    refine lv_iconst (v := 4) hx hb dX10_lot_18 (by decide) ?_
    obtain ⟨r5, M6, h7, h⟩ := bind2 h
    refine cBack C.2.2.2.2.2.2.2.2 (runS (As := [.int (y), .int (0), .int (4)]) (rest := []) C hW hS (c_X10_isIn l g M2 y 0 4 _ _ h7) kS_X10_isIn ml_X10_50 rfl hl.1 rfl (Nat.le_of_ble_eq_true rfl) ⟨Nat.le_of_ble_eq_true rfl, Nat.le_of_ble_eq_true rfl⟩ ⟨Nat.zero_le _, Nat.zero_le _⟩ dX10_lot_19) hS (fun v0 w0 H locs hp hW hS => ?_)
    obtain ⟨rfl, rfl, zr5⟩ := hp
    refine lv_if_ne (tgt := 27) hx hb dX10_lot_22 (by decide) (fun c8 => ?_) (fun c8 => ?_)
    · rw [if_neg c8] at h
      refine lv_iload_n hx hb dX10_lot_27 rfl (lv_at hl 3 rfl) ?_
      refine lv_iconst (v := 4) hx hb dX10_lot_28 (by decide) ?_
      refine lv_icmp_ne (tgt := 39) hx hb dX10_lot_29 (by decide) (fun c9 => ?_) (fun c9 => ?_)
      · rw [if_neg c9] at h
        refine lv_aload_n hx hb dX10_lot_39 rfl (lv_at hl 0 rfl) ?_
        refine rGetN (k := 0) C hW (wB_lt h05 (by have := hj4; omega)) (tm_Lot h05 hj4) rfl inX5 (by decide) fl_X10_93 rfl dX10_lot_40 ?_
        refine lv_iload_n hx hb dX10_lot_43 rfl (lv_at hl 3 rfl) ?_
        obtain ⟨r10, M11, h12, h⟩ := bind2 h
        refine cBack C.2.2.2.2.2.2.2.2 (runV (As := [.int (y)]) (rest := []) C hW hS (c_X6_tell l g M6 (wB 0 + (8 + 2 * j4)) 0 (9 + 3 * j4) y (MX_lot h05 hj4) _ _ h12) kV_X6_tell ml_X10_109 (MX_lot h05 hj4).lt (MX_lot h05 hj4).cel rfl rfl rfl hl.1 rfl (Nat.le_of_ble_eq_true rfl) ⟨Nat.le_of_ble_eq_true rfl, Nat.le_of_ble_eq_true rfl⟩ ⟨Nat.zero_le _, Nat.zero_le _⟩ dX10_lot_44) hS (fun v0 w0 H locs hp hW hS => ?_)
        obtain ⟨rfl, rfl⟩ := hp
        cases h
        exact rI C hr hlk dX10_lot_47 hW hS ⟨rfl, rfl⟩
      · rw [if_pos c9] at h
        refine lv_aload_n hx hb dX10_lot_32 rfl (lv_at hl 0 rfl) ?_
        refine rGetN (k := 1) C hW (wB_lt h05 (by have := hj4; omega)) (tm_Lot h05 hj4) rfl inX5 (by decide) fl_X10_106 rfl dX10_lot_33 ?_
        refine lv_goto (tgt := 47) hx hb dX10_lot_36 (by decide) ?_
        cases h
        exact rI C hr hlk dX10_lot_47 hW hS ⟨rfl, rfl⟩
    · rw [if_pos c8] at h
      refine lv_iconst (v := -1) hx hb dX10_lot_25 (by decide) ?_
      cases h
      exact rI C hr hlk dX10_lot_26 hW hS ⟨rfl, rfl⟩
def f_X10_melt (M : MM) (x : Int32) : Option (Int32 × MM) := (bnd2 (f_X10_isIn M x 0 3) fun r1 M2 => (if (r1 : Int32) = 0 then (if (x : Int32) = 4 then (bnd2 (f_X9_burntMelt M2 0) fun r6 M7 => (bnd2 (f_X6_weight M7 (65 + 0) 0) fun r9 M10 => some (r9, M10))) else (if (x : Int32) = 5 then (bnd2 (f_X9_burntMelt M2 0) fun r13 M14 => (bnd2 (f_X6_alloy M14 (65 + 0) 0) fun r16 M17 => some (r16, M17))) else some (-1, M2))) else (bnd2 (f_X6_tell M2 0 6 x) fun r19 M20 => some (r19, M20))))
set_option maxHeartbeats 4000000 in
set_option maxRecDepth 100000 in
theorem c_X10_melt (l : Launch) (g : GD) (M : MM) (x : Int32) (r : Int32) (M2 : MM) (h : f_X10_melt M x = some (r, M2)) : Met l yX10_melt (wm yX10_melt cX10_melt 2 (some .int)) (RM 3 64) (va_Pc [rf g (0), .int (x)] (WDp g M)) (QQ g (fun v w0 => v = .int r ∧ M2 = w0)) 0 0 (AA g) := by
  refine mkM (by decide +kernel) (Nat.le_of_ble_eq_true rfl) ?_
  intro p e s m below meth c C hr hlk hW hS ls hl
  have hl : lv_has ls 2 [(0, rf g (0)), (1, .int (x))] := hl
  have hx := C.1
  have hb := C.2.1
  have hts := C.2.2.2.2.1
  have h05 : (0 : Nat) < 5 := by decide
  unfold f_X10_melt at h
  refine lv_iload_n hx hb dX10_melt_0 rfl (lv_at hl 1 rfl) ?_
  refine lv_iconst (v := 0) hx hb dX10_melt_1 (by decide) ?_
  refine lv_iconst (v := 3) hx hb dX10_melt_2 (by decide) ?_
  obtain ⟨r1, M2, h3, h⟩ := bind2 h
  refine cBack C.2.2.2.2.2.2.2.2 (runS (As := [.int (x), .int (0), .int (3)]) (rest := []) C hW hS (c_X10_isIn l g M x 0 3 _ _ h3) kS_X10_isIn ml_X10_50 rfl hl.1 rfl (Nat.le_of_ble_eq_true rfl) ⟨Nat.le_of_ble_eq_true rfl, Nat.le_of_ble_eq_true rfl⟩ ⟨Nat.zero_le _, Nat.zero_le _⟩ dX10_melt_3) hS (fun v0 w0 H locs hp hW hS => ?_)
  obtain ⟨rfl, rfl, zr1⟩ := hp
  refine lv_if_eq (tgt := 21) hx hb dX10_melt_6 (by decide) (fun c4 => ?_) (fun c4 => ?_)
  · rw [if_pos c4] at h
    refine lv_iload_n hx hb dX10_melt_21 rfl (lv_at hl 1 rfl) ?_
    by_cases c5 : (x : Int32) = 4
    · rw [if_pos c5] at h
      refine lv_lookup (off := 26) (tgt := 48) hx hb dX10_melt_22 (by decide) (by rw [c5]; rfl) (by decide) ?_
      refine lv_aload_n hx hb dX10_melt_48 rfl (lv_at hl 0 rfl) ?_
      refine rGet (k := 0) C hW (by decide) tm_BF rfl inX10 (by decide) fl_X10_10 rfl dX10_melt_49 ?_
      obtain ⟨r6, M7, h8, h⟩ := bind2 h
      refine cBack C.2.2.2.2.2.2.2.2 (runV (As := []) (rest := []) C hW hS (c_X9_burntMelt l g M2 0 h05 _ _ h8) kV_X9_burntMelt ml_X10_112 (wB_lt (r := 0) h05 (by decide)) (tm_Works0 h05) rfl rfl rfl hl.1 rfl (Nat.le_of_ble_eq_true rfl) ⟨Nat.le_of_ble_eq_true rfl, Nat.le_of_ble_eq_true rfl⟩ ⟨Nat.zero_le _, Nat.zero_le _⟩ dX10_melt_52) hS (fun v0 w0 H locs hp hW hS => ?_)
      obtain ⟨rfl, rfl⟩ := hp
      obtain ⟨r9, M10, h11, h⟩ := bind2 h
      refine cBack C.2.2.2.2.2.2.2.2 (runV (As := []) (rest := []) C hW hS (c_X6_weight l g M7 (wB 0 + 35) (65 + 0) 0 (MX_burnt h05) _ _ h11) kV_X6_weight ml_X10_79 (MX_burnt h05).lt (MX_burnt h05).cel rfl rfl rfl hl.1 rfl (Nat.le_of_ble_eq_true rfl) ⟨Nat.le_of_ble_eq_true rfl, Nat.le_of_ble_eq_true rfl⟩ ⟨Nat.zero_le _, Nat.zero_le _⟩ dX10_melt_55) hS (fun v0 w0 H locs hp hW hS => ?_)
      obtain ⟨rfl, rfl⟩ := hp
      cases h
      exact rI C hr hlk dX10_melt_58 hW hS ⟨rfl, rfl⟩
    rw [if_neg c5] at h
    by_cases c12 : (x : Int32) = 5
    · rw [if_pos c12] at h
      refine lv_lookup (off := 37) (tgt := 59) hx hb dX10_melt_22 (by decide) (by rw [c12]; rfl) (by decide) ?_
      refine lv_aload_n hx hb dX10_melt_59 rfl (lv_at hl 0 rfl) ?_
      refine rGet (k := 0) C hW (by decide) tm_BF rfl inX10 (by decide) fl_X10_10 rfl dX10_melt_60 ?_
      obtain ⟨r13, M14, h15, h⟩ := bind2 h
      refine cBack C.2.2.2.2.2.2.2.2 (runV (As := []) (rest := []) C hW hS (c_X9_burntMelt l g M2 0 h05 _ _ h15) kV_X9_burntMelt ml_X10_112 (wB_lt (r := 0) h05 (by decide)) (tm_Works0 h05) rfl rfl rfl hl.1 rfl (Nat.le_of_ble_eq_true rfl) ⟨Nat.le_of_ble_eq_true rfl, Nat.le_of_ble_eq_true rfl⟩ ⟨Nat.zero_le _, Nat.zero_le _⟩ dX10_melt_63) hS (fun v0 w0 H locs hp hW hS => ?_)
      obtain ⟨rfl, rfl⟩ := hp
      obtain ⟨r16, M17, h18, h⟩ := bind2 h
      refine cBack C.2.2.2.2.2.2.2.2 (runV (As := []) (rest := []) C hW hS (c_X6_alloy l g M14 (wB 0 + 35) (65 + 0) 0 (MX_burnt h05) _ _ h18) kV_X6_alloy ml_X10_116 (MX_burnt h05).lt (MX_burnt h05).cel rfl rfl rfl hl.1 rfl (Nat.le_of_ble_eq_true rfl) ⟨Nat.le_of_ble_eq_true rfl, Nat.le_of_ble_eq_true rfl⟩ ⟨Nat.zero_le _, Nat.zero_le _⟩ dX10_melt_66) hS (fun v0 w0 H locs hp hW hS => ?_)
      obtain ⟨rfl, rfl⟩ := hp
      cases h
      exact rI C hr hlk dX10_melt_69 hW hS ⟨rfl, rfl⟩
    rw [if_neg c12] at h
    refine lv_lookup (off := 48) (tgt := 70) hx hb dX10_melt_22 (by decide) (by show Op.lookupswitch.offset [(4, 26), (5, 37)] 48 (x : Int32).toInt = _; rw [lv_osw (a := 4) c5 rfl]; rw [lv_osw (a := 5) c12 rfl]; rfl) (by decide) ?_
    refine lv_iconst (v := -1) hx hb dX10_melt_70 (by decide) ?_
    cases h
    exact rI C hr hlk dX10_melt_71 hW hS ⟨rfl, rfl⟩
  · rw [if_neg c4] at h
    refine lv_aload_n hx hb dX10_melt_9 rfl (lv_at hl 0 rfl) ?_
    refine rGet (k := 0) C hW (by decide) tm_BF rfl inX10 (by decide) fl_X10_10 rfl dX10_melt_10 ?_
    refine rGetN (k := 3) C hW (wB_lt (r := 0) h05 (by decide)) (tm_Works0 h05) rfl inX9 (by decide) fl_X10_76 rfl dX10_melt_13 ?_
    refine lv_iload_n hx hb dX10_melt_16 rfl (lv_at hl 1 rfl) ?_
    obtain ⟨r19, M20, h21, h⟩ := bind2 h
    refine cBack C.2.2.2.2.2.2.2.2 (runV (As := [.int (x)]) (rest := []) C hW hS (c_X6_tell l g M2 (wB 0 + 4) 0 6 x (MX_melt h05) _ _ h21) kV_X6_tell ml_X10_109 (MX_melt h05).lt (MX_melt h05).cel rfl rfl rfl hl.1 rfl (Nat.le_of_ble_eq_true rfl) ⟨Nat.le_of_ble_eq_true rfl, Nat.le_of_ble_eq_true rfl⟩ ⟨Nat.zero_le _, Nat.zero_le _⟩ dX10_melt_17) hS (fun v0 w0 H locs hp hW hS => ?_)
    obtain ⟨rfl, rfl⟩ := hp
    cases h
    exact rI C hr hlk dX10_melt_20 hW hS ⟨rfl, rfl⟩
def f_X10_set (M : MM) (x : Int32) (y : Int32) : Option (Int32 × MM) := (bnd2 (f_X10_isIn M x 0 ((7) - (1))) fun r1 M2 => (if (r1 : Int32) = 0 then some (-1, M2) else (if vin (x) 7 then (if vin (x) 7 then (bnd2 (f_X10_isIn M2 y (sFrom (x).toNatClampNeg) (sTo (x).toNatClampNeg)) fun r7 M8 => (if (r7 : Int32) = 0 then some (-1, M8) else (bnd2 (f_X3_keep M8 0) fun r11 M12 => (if vin (x) 7 then (if vin (x) 7 then (letB (up2 M12 (40 + 0) (x : Int32).toNatClampNeg (y)) fun M16 => some (M12 (40 + 0) (x : Int32).toNatClampNeg, M16)) else none) else none)))) else none) else none)))
set_option maxHeartbeats 4000000 in
set_option maxRecDepth 100000 in
theorem c_X10_set (l : Launch) (g : GD) (M : MM) (x : Int32) (y : Int32) (r : Int32) (M2 : MM) (h : f_X10_set M x y = some (r, M2)) : Met l yX10_set (wm yX10_set cX10_set 4 (some .int)) (RM 4 86) (va_Pc [rf g (0), .int (x), .int (y)] (WDp g M)) (QQ g (fun v w0 => v = .int r ∧ M2 = w0)) 0 0 (AA g) := by
  refine mkM (by decide +kernel) (Nat.le_of_ble_eq_true rfl) ?_
  intro p e s m below meth c C hr hlk hW hS ls hl
  have hl : lv_has ls 4 [(0, rf g (0)), (1, .int (x)), (2, .int (y))] := hl
  have hx := C.1
  have hb := C.2.1
  have hts := C.2.2.2.2.1
  have h05 : (0 : Nat) < 5 := by decide
  unfold f_X10_set at h
  refine lv_iload_n hx hb dX10_set_0 rfl (lv_at hl 1 rfl) ?_
  refine lv_iconst (v := 0) hx hb dX10_set_1 (by decide) ?_
  refine rGs C hS C.2.2.2.2.2.2.1.1 fl_X10_119 dX10_set_2 ?_
  refine rTlen (v := 7) C hS C.2.2.2.2.2.2.1.1 (by decide) dX10_set_5 ?_
  refine lv_iconst (v := 1) hx hb dX10_set_6 (by decide) ?_
  refine lv_isub hx hb dX10_set_7 ?_
  obtain ⟨r1, M2, h3, h⟩ := bind2 h
  refine cBack C.2.2.2.2.2.2.2.2 (runS (As := [.int (x), .int (0), .int ((7) - (1))]) (rest := []) C hW hS (c_X10_isIn l g M x 0 ((7) - (1)) _ _ h3) kS_X10_isIn ml_X10_50 rfl hl.1 rfl (Nat.le_of_ble_eq_true rfl) ⟨Nat.le_of_ble_eq_true rfl, Nat.le_of_ble_eq_true rfl⟩ ⟨Nat.zero_le _, Nat.zero_le _⟩ dX10_set_8) hS (fun v0 w0 H locs hp hW hS => ?_)
  obtain ⟨rfl, rfl, zr1⟩ := hp
  refine lv_if_eq (tgt := 31) hx hb dX10_set_11 (by decide) (fun c4 => ?_) (fun c4 => ?_)
  · rw [if_pos c4] at h
    refine lv_iconst (v := -1) hx hb dX10_set_31 (by decide) ?_
    cases h
    exact rI C hr hlk dX10_set_32 hW hS ⟨rfl, rfl⟩
  · rw [if_neg c4] at h
    refine lv_iload_n hx hb dX10_set_14 rfl (lv_at hl 2 rfl) ?_
    refine rGs C hS C.2.2.2.2.2.2.1.2.1 fl_X10_123 dX10_set_15 ?_
    refine lv_iload_n hx hb dX10_set_18 rfl (lv_at hl 1 rfl) ?_
    have s5 : vin (x) 7 := Classical.byContradiction fun q9 => by rw [if_neg q9] at h; cases h
    rw [if_pos s5] at h
    refine rTld C hS C.2.2.2.2.2.2.1.2.1 s5 dX10_set_19 ?_
    refine rGs C hS C.2.2.2.2.2.2.1.2.2.1 fl_X10_126 dX10_set_20 ?_
    refine lv_iload_n hx hb dX10_set_23 rfl (lv_at hl 1 rfl) ?_
    have s6 : vin (x) 7 := Classical.byContradiction fun q9 => by rw [if_neg q9] at h; cases h
    rw [if_pos s6] at h
    refine rTld C hS C.2.2.2.2.2.2.1.2.2.1 s6 dX10_set_24 ?_
    obtain ⟨r7, M8, h9, h⟩ := bind2 h
    refine cBack C.2.2.2.2.2.2.2.2 (runS (As := [.int (y), .int (sFrom (x).toNatClampNeg), .int (sTo (x).toNatClampNeg)]) (rest := []) C hW hS (c_X10_isIn l g M2 y (sFrom (x).toNatClampNeg) (sTo (x).toNatClampNeg) _ _ h9) kS_X10_isIn ml_X10_50 rfl hl.1 rfl (Nat.le_of_ble_eq_true rfl) ⟨Nat.le_of_ble_eq_true rfl, Nat.le_of_ble_eq_true rfl⟩ ⟨Nat.zero_le _, Nat.zero_le _⟩ dX10_set_25) hS (fun v0 w0 H locs hp hW hS => ?_)
    obtain ⟨rfl, rfl, zr7⟩ := hp
    refine lv_if_ne (tgt := 33) hx hb dX10_set_28 (by decide) (fun c10 => ?_) (fun c10 => ?_)
    · rw [if_neg c10] at h
      refine lv_aload_n hx hb dX10_set_33 rfl (lv_at hl 0 rfl) ?_
      refine rGet (k := 1) C hW (by decide) tm_BF rfl inX10 (by decide) fl_X10_19 rfl dX10_set_34 ?_
      refine lv_aload_n hx hb dX10_set_37 rfl (lv_at hl 0 rfl) ?_
      refine rGet (k := 0) C hW (by decide) tm_BF rfl inX10 (by decide) fl_X10_10 rfl dX10_set_38 ?_
      obtain ⟨r11, M12, h13, h⟩ := bind2 h
      refine cBackV C.2.2.2.2.2.2.2.2 (runV (As := [rf g (wB 0)]) (rest := []) C hW hS (c_X3_keep l g M8 0 h05 _ _ h13) kV_X3_keep ml_X10_65 (by decide) tm_Hist rfl rfl rfl hl.1 rfl (Nat.le_of_ble_eq_true rfl) ⟨Nat.le_of_ble_eq_true rfl, Nat.le_of_ble_eq_true rfl⟩ ⟨Nat.zero_le _, Nat.zero_le _⟩ dX10_set_41) hS (fun v0 H locs hp hW hS => ?_)
      subst hp
      refine lv_aload_n hx hb dX10_set_44 rfl (lv_at hl 0 rfl) ?_
      refine rGet (k := 0) C hW (by decide) tm_BF rfl inX10 (by decide) fl_X10_10 rfl dX10_set_45 ?_
      refine rGetN (k := 5) C hW (wB_lt (r := 0) h05 (by decide)) (tm_Works0 h05) rfl inX9 (by decide) fl_X10_129 rfl dX10_set_48 ?_
      refine lv_iload_n hx hb dX10_set_51 rfl (lv_at hl 1 rfl) ?_
      have s14 : vin (x) 7 := Classical.byContradiction fun q9 => by rw [if_neg q9] at h; cases h
      rw [if_pos s14] at h
      refine rIld C hW (wB_lt h05 (by decide)) (tm_settings h05) s14 dX10_set_52 ?_
      refine lv_istore_n (lv' := [(3, .int (M12 (40 + 0) (x : Int32).toNatClampNeg)), (0, rf g (0)), (1, .int (x)), (2, .int (y))]) hx hb dX10_set_53 rfl hl (by decide) rfl (fun ls hl => ?_)
      refine lv_aload_n hx hb dX10_set_54 rfl (lv_at hl 1 rfl) ?_
      refine rGet (k := 0) C hW (by decide) tm_BF rfl inX10 (by decide) fl_X10_10 rfl dX10_set_55 ?_
      refine rGetN (k := 5) C hW (wB_lt (r := 0) h05 (by decide)) (tm_Works0 h05) rfl inX9 (by decide) fl_X10_129 rfl dX10_set_58 ?_
      refine lv_iload_n hx hb dX10_set_61 rfl (lv_at hl 2 rfl) ?_
      refine lv_iload_n hx hb dX10_set_62 rfl (lv_at hl 3 rfl) ?_
      have s15 : vin (x) 7 := Classical.byContradiction fun q9 => by rw [if_neg q9] at h; cases h
      rw [if_pos s15] at h
      refine rIst (M' := up2 M12 (40 + 0) (x : Int32).toNatClampNeg (y)) C hW hS (wB_lt h05 (by decide)) (tm_settings h05) s15 (UPD_G (by omega) (ob40 h05).symm (by rw [tm_settings h05, up2_gr])) dX10_set_63 (fun H locs hW hS => ?_)
      have hW : Wd g (up2 M12 (40 + 0) (x : Int32).toNatClampNeg (y)) H := hW
      have h := letE h
      generalize up2 M12 (40 + 0) (x : Int32).toNatClampNeg (y) = M16 at hW h
      refine lv_iload_n hx hb dX10_set_64 rfl (lv_at hl 0 rfl) ?_
      cases h
      exact rI C hr hlk dX10_set_65 hW hS ⟨rfl, rfl⟩
    · rw [if_pos c10] at h
      refine lv_iconst (v := -1) hx hb dX10_set_31 (by decide) ?_
      cases h
      exact rI C hr hlk dX10_set_32 hW hS ⟨rfl, rfl⟩
def f_X10_pour (M : MM) (x : Int32) (y : Int32) : Option (Int32 × MM) := (bnd2 (f_X10_isProfile M x) fun r1 M2 => (if (r1 : Int32) = 0 then some (-1, M2) else (bnd2 (f_X10_isIn M2 y 1 10000) fun r5 M6 => (if (r5 : Int32) = 0 then some (-1, M6) else (bnd2 (f_X9_burntMelt M6 0) fun r9 M10 => (bnd2 (f_X6_weight M10 (65 + 0) 0) fun r12 M13 => (bnd2 (f_X9_weightWithSprue M13 0 y) fun r15 M16 => (if (r15 : Int32) ≤ (r12 : Int32) then (bnd2 (f_X9_remainingBells M16 0) fun r19 M20 => (if (12 : Int32) ≤ (r19 : Int32) then some (-3, M20) else (if (M20 0 52 : Int32) < (100 : Int32) then (bnd2 (f_X3_keep M20 0) fun r24 M25 => (bnd2 (f_X9_castBell M25 0 x y) fun r27 M28 => some (r27, M28))) else some (-3, M20)))) else some (-2, M16)))))))))
set_option maxHeartbeats 4000000 in
set_option maxRecDepth 100000 in
theorem c_X10_pour (l : Launch) (g : GD) (M : MM) (x : Int32) (y : Int32) (r : Int32) (M2 : MM) (h : f_X10_pour M x y = some (r, M2)) : Met l yX10_pour (wm yX10_pour cX10_pour 3 (some .int)) (RM 4 90) (va_Pc [rf g (0), .int (x), .int (y)] (WDp g M)) (QQ g (fun v w0 => v = .int r ∧ M2 = w0)) 0 0 (AA g) := by
  refine mkM (by decide +kernel) (Nat.le_of_ble_eq_true rfl) ?_
  intro p e s m below meth c C hr hlk hW hS ls hl
  have hl : lv_has ls 3 [(0, rf g (0)), (1, .int (x)), (2, .int (y))] := hl
  have hx := C.1
  have hb := C.2.1
  have hts := C.2.2.2.2.1
  have h05 : (0 : Nat) < 5 := by decide
  unfold f_X10_pour at h
  refine lv_iload_n hx hb dX10_pour_0 rfl (lv_at hl 1 rfl) ?_
  obtain ⟨r1, M2, h3, h⟩ := bind2 h
  refine cBack C.2.2.2.2.2.2.2.2 (runS (As := [.int (x)]) (rest := []) C hW hS (c_X10_isProfile l g M x _ _ h3) kS_X10_isProfile ml_X10_132 rfl hl.1 rfl (Nat.le_of_ble_eq_true rfl) ⟨Nat.le_of_ble_eq_true rfl, Nat.le_of_ble_eq_true rfl⟩ ⟨Nat.zero_le _, Nat.zero_le _⟩ dX10_pour_1) hS (fun v0 w0 H locs hp hW hS => ?_)
  obtain ⟨rfl, rfl, zr1⟩ := hp
  refine lv_if_eq (tgt := 18) hx hb dX10_pour_4 (by decide) (fun c4 => ?_) (fun c4 => ?_)
  · rw [if_pos c4] at h
    refine lv_iconst (v := -1) hx hb dX10_pour_18 (by decide) ?_
    cases h
    exact rI C hr hlk dX10_pour_19 hW hS ⟨rfl, rfl⟩
  · rw [if_neg c4] at h
    refine lv_iload_n hx hb dX10_pour_7 rfl (lv_at hl 2 rfl) ?_
    refine lv_iconst (v := 1) hx hb dX10_pour_8 (by decide) ?_
    refine lv_sipush (v := 10000) hx hb dX10_pour_9 (by decide) ?_
    obtain ⟨r5, M6, h7, h⟩ := bind2 h
    refine cBack C.2.2.2.2.2.2.2.2 (runS (As := [.int (y), .int (1), .int (10000)]) (rest := []) C hW hS (c_X10_isIn l g M2 y 1 10000 _ _ h7) kS_X10_isIn ml_X10_50 rfl hl.1 rfl (Nat.le_of_ble_eq_true rfl) ⟨Nat.le_of_ble_eq_true rfl, Nat.le_of_ble_eq_true rfl⟩ ⟨Nat.zero_le _, Nat.zero_le _⟩ dX10_pour_12) hS (fun v0 w0 H locs hp hW hS => ?_)
    obtain ⟨rfl, rfl, zr5⟩ := hp
    refine lv_if_ne (tgt := 20) hx hb dX10_pour_15 (by decide) (fun c8 => ?_) (fun c8 => ?_)
    · rw [if_neg c8] at h
      refine lv_aload_n hx hb dX10_pour_20 rfl (lv_at hl 0 rfl) ?_
      refine rGet (k := 0) C hW (by decide) tm_BF rfl inX10 (by decide) fl_X10_10 rfl dX10_pour_21 ?_
      obtain ⟨r9, M10, h11, h⟩ := bind2 h
      refine cBack C.2.2.2.2.2.2.2.2 (runV (As := []) (rest := []) C hW hS (c_X9_burntMelt l g M6 0 h05 _ _ h11) kV_X9_burntMelt ml_X10_112 (wB_lt (r := 0) h05 (by decide)) (tm_Works0 h05) rfl rfl rfl hl.1 rfl (Nat.le_of_ble_eq_true rfl) ⟨Nat.le_of_ble_eq_true rfl, Nat.le_of_ble_eq_true rfl⟩ ⟨Nat.zero_le _, Nat.zero_le _⟩ dX10_pour_24) hS (fun v0 w0 H locs hp hW hS => ?_)
      obtain ⟨rfl, rfl⟩ := hp
      obtain ⟨r12, M13, h14, h⟩ := bind2 h
      refine cBack C.2.2.2.2.2.2.2.2 (runV (As := []) (rest := []) C hW hS (c_X6_weight l g M10 (wB 0 + 35) (65 + 0) 0 (MX_burnt h05) _ _ h14) kV_X6_weight ml_X10_79 (MX_burnt h05).lt (MX_burnt h05).cel rfl rfl rfl hl.1 rfl (Nat.le_of_ble_eq_true rfl) ⟨Nat.le_of_ble_eq_true rfl, Nat.le_of_ble_eq_true rfl⟩ ⟨Nat.zero_le _, Nat.zero_le _⟩ dX10_pour_27) hS (fun v0 w0 H locs hp hW hS => ?_)
      obtain ⟨rfl, rfl⟩ := hp
      refine lv_aload_n hx hb dX10_pour_30 rfl (lv_at hl 0 rfl) ?_
      refine rGet (k := 0) C hW (by decide) tm_BF rfl inX10 (by decide) fl_X10_10 rfl dX10_pour_31 ?_
      refine lv_iload_n hx hb dX10_pour_34 rfl (lv_at hl 2 rfl) ?_
      obtain ⟨r15, M16, h17, h⟩ := bind2 h
      refine cBack C.2.2.2.2.2.2.2.2 (runV (As := [.int (y)]) (rest := [.int (r12)]) C hW hS (c_X9_weightWithSprue l g M13 0 y h05 _ _ h17) kV_X9_weightWithSprue ml_X10_135 (wB_lt (r := 0) h05 (by decide)) (tm_Works0 h05) rfl rfl rfl hl.1 rfl (Nat.le_of_ble_eq_true rfl) ⟨Nat.le_of_ble_eq_true rfl, Nat.le_of_ble_eq_true rfl⟩ ⟨Nat.zero_le _, Nat.zero_le _⟩ dX10_pour_35) hS (fun v0 w0 H locs hp hW hS => ?_)
      obtain ⟨rfl, rfl⟩ := hp
      refine lv_icmp_ge (tgt := 44) hx hb dX10_pour_38 (by decide) (fun c18 => ?_) (fun c18 => ?_)
      · rw [if_pos c18] at h
        refine lv_aload_n hx hb dX10_pour_44 rfl (lv_at hl 0 rfl) ?_
        refine rGet (k := 0) C hW (by decide) tm_BF rfl inX10 (by decide) fl_X10_10 rfl dX10_pour_45 ?_
        obtain ⟨r19, M20, h21, h⟩ := bind2 h
        refine cBack C.2.2.2.2.2.2.2.2 (runV (As := []) (rest := []) C hW hS (c_X9_remainingBells l g M16 0 h05 _ _ h21) kV_X9_remainingBells ml_X10_138 (wB_lt (r := 0) h05 (by decide)) (tm_Works0 h05) rfl rfl rfl hl.1 rfl (Nat.le_of_ble_eq_true rfl) ⟨Nat.le_of_ble_eq_true rfl, Nat.le_of_ble_eq_true rfl⟩ ⟨Nat.zero_le _, Nat.zero_le _⟩ dX10_pour_48) hS (fun v0 w0 H locs hp hW hS => ?_)
        obtain ⟨rfl, rfl⟩ := hp
        refine lv_bipush (v := 12) hx hb dX10_pour_51 (by decide) ?_
        refine lv_icmp_ge (tgt := 68) hx hb dX10_pour_53 (by decide) (fun c22 => ?_) (fun c22 => ?_)
        · rw [if_pos c22] at h
          refine lv_bipush (v := -3) hx hb dX10_pour_68 (by decide) ?_
          cases h
          exact rI C hr hlk dX10_pour_70 hW hS ⟨rfl, rfl⟩
        · rw [if_neg c22] at h
          refine lv_aload_n hx hb dX10_pour_56 rfl (lv_at hl 0 rfl) ?_
          refine rGet (k := 0) C hW (by decide) tm_BF rfl inX10 (by decide) fl_X10_10 rfl dX10_pour_57 ?_
          refine rGetN (k := 8) C hW (wB_lt (r := 0) h05 (by decide)) (tm_Works0 h05) rfl inX9 (by decide) fl_X10_141 rfl dX10_pour_60 ?_
          refine lv_bipush (v := 100) hx hb dX10_pour_63 (by decide) ?_
          refine lv_icmp_lt (tgt := 71) hx hb dX10_pour_65 (by decide) (fun c23 => ?_) (fun c23 => ?_)
          · rw [if_pos c23] at h
            refine lv_aload_n hx hb dX10_pour_71 rfl (lv_at hl 0 rfl) ?_
            refine rGet (k := 1) C hW (by decide) tm_BF rfl inX10 (by decide) fl_X10_19 rfl dX10_pour_72 ?_
            refine lv_aload_n hx hb dX10_pour_75 rfl (lv_at hl 0 rfl) ?_
            refine rGet (k := 0) C hW (by decide) tm_BF rfl inX10 (by decide) fl_X10_10 rfl dX10_pour_76 ?_
            obtain ⟨r24, M25, h26, h⟩ := bind2 h
            refine cBackV C.2.2.2.2.2.2.2.2 (runV (As := [rf g (wB 0)]) (rest := []) C hW hS (c_X3_keep l g M20 0 h05 _ _ h26) kV_X3_keep ml_X10_65 (by decide) tm_Hist rfl rfl rfl hl.1 rfl (Nat.le_of_ble_eq_true rfl) ⟨Nat.le_of_ble_eq_true rfl, Nat.le_of_ble_eq_true rfl⟩ ⟨Nat.zero_le _, Nat.zero_le _⟩ dX10_pour_79) hS (fun v0 H locs hp hW hS => ?_)
            subst hp
            refine lv_aload_n hx hb dX10_pour_82 rfl (lv_at hl 0 rfl) ?_
            refine rGet (k := 0) C hW (by decide) tm_BF rfl inX10 (by decide) fl_X10_10 rfl dX10_pour_83 ?_
            refine lv_iload_n hx hb dX10_pour_86 rfl (lv_at hl 1 rfl) ?_
            refine lv_iload_n hx hb dX10_pour_87 rfl (lv_at hl 2 rfl) ?_
            obtain ⟨r27, M28, h29, h⟩ := bind2 h
            refine cBack C.2.2.2.2.2.2.2.2 (runV (As := [.int (x), .int (y)]) (rest := []) C hW hS (c_X9_castBell l g M25 0 x y h05 _ _ h29) kV_X9_castBell ml_X10_144 (wB_lt (r := 0) h05 (by decide)) (tm_Works0 h05) rfl rfl rfl hl.1 rfl (Nat.le_of_ble_eq_true rfl) ⟨Nat.le_of_ble_eq_true rfl, Nat.le_of_ble_eq_true rfl⟩ ⟨Nat.zero_le _, Nat.zero_le _⟩ dX10_pour_88) hS (fun v0 w0 H locs hp hW hS => ?_)
            obtain ⟨rfl, rfl⟩ := hp
            cases h
            exact rI C hr hlk dX10_pour_91 hW hS ⟨rfl, rfl⟩
          · rw [if_neg c23] at h
            refine lv_bipush (v := -3) hx hb dX10_pour_68 (by decide) ?_
            cases h
            exact rI C hr hlk dX10_pour_70 hW hS ⟨rfl, rfl⟩
      · rw [if_neg c18] at h
        refine lv_bipush (v := -2) hx hb dX10_pour_41 (by decide) ?_
        cases h
        exact rI C hr hlk dX10_pour_43 hW hS ⟨rfl, rfl⟩
    · rw [if_pos c8] at h
      refine lv_iconst (v := -1) hx hb dX10_pour_18 (by decide) ?_
      cases h
      exact rI C hr hlk dX10_pour_19 hW hS ⟨rfl, rfl⟩
def f_X10_tune (M : MM) (x : Int32) (y : Int32) : Option (Int32 × MM) := (bnd2 (f_X9_bellAt M 0 x) fun r1 M2 => optE r1 (some (-1, M2)) (fun j4 => (bnd2 (f_X10_isIn M2 y 1 1000) fun r5 M6 => (if (r5 : Int32) = 0 then some (-1, M6) else (if (M6 0 (60 + 8 * j4) : Int32) = 0 then (bnd2 (f_X6_weight M6 0 (54 + 8 * j4)) fun r10 M11 => (if (y : Int32) < (r10 : Int32) then (bnd2 (f_X3_keep M11 0) fun r14 M15 => (bnd2 (f_X9_shave M15 0 j4 y) fun r17 M18 => some (M18 0 (57 + 8 * j4), M18))) else some (-2, M11))) else some (-2, M6))))))
set_option maxHeartbeats 4000000 in
set_option maxRecDepth 100000 in
theorem c_X10_tune (l : Launch) (g : GD) (M : MM) (x : Int32) (y : Int32) (r : Int32) (M2 : MM) (h : f_X10_tune M x y = some (r, M2)) : Met l yX10_tune (wm yX10_tune cX10_tune 4 (some .int)) (RM 4 87) (va_Pc [rf g (0), .int (x), .int (y)] (WDp g M)) (QQ g (fun v w0 => v = .int r ∧ M2 = w0)) 0 0 (AA g) := by
  refine mkM (by decide +kernel) (Nat.le_of_ble_eq_true rfl) ?_
  intro p e s m below meth c C hr hlk hW hS ls hl
  have hl : lv_has ls 4 [(0, rf g (0)), (1, .int (x)), (2, .int (y))] := hl
  have hx := C.1
  have hb := C.2.1
  have hts := C.2.2.2.2.1
  have h05 : (0 : Nat) < 5 := by decide
  unfold f_X10_tune at h
  refine lv_aload_n hx hb dX10_tune_0 rfl (lv_at hl 0 rfl) ?_
  refine rGet (k := 0) C hW (by decide) tm_BF rfl inX10 (by decide) fl_X10_10 rfl dX10_tune_1 ?_
  refine lv_iload_n hx hb dX10_tune_4 rfl (lv_at hl 1 rfl) ?_
  obtain ⟨r1, M2, h3, h⟩ := bind2 h
  refine cBack C.2.2.2.2.2.2.2.2 (runV (As := [.int (x)]) (rest := []) C hW hS (c_X9_bellAt l g M 0 x h05 _ _ h3) kV_X9_bellAt ml_X10_148 (wB_lt (r := 0) h05 (by decide)) (tm_Works0 h05) rfl rfl rfl hl.1 rfl (Nat.le_of_ble_eq_true rfl) ⟨Nat.le_of_ble_eq_true rfl, Nat.le_of_ble_eq_true rfl⟩ ⟨Nat.zero_le _, Nat.zero_le _⟩ dX10_tune_5) hS (fun v0 w0 H locs hp hW hS => ?_)
  obtain ⟨rfl, rfl, br1⟩ := hp
  rcases r1 with _ | j4
  · have h := optN h
    refine rAstNn (lv' := [(3, .null), (0, rf g (0)), (1, .int (x)), (2, .int (y))]) C dX10_tune_8 rfl hl (by decide) rfl (fun ls hl => ?_)
    refine rAldNn C dX10_tune_9 rfl (lv_at hl 0 rfl) ?_
    refine lv_ifnullN (tgt := 24) hx hb dX10_tune_10 (by decide) ?_
    refine lv_iconst (v := -1) hx hb dX10_tune_24 (by decide) ?_
    cases h
    exact rI C hr hlk dX10_tune_25 hW hS ⟨rfl, rfl⟩
  · have h := optS h
    have hj4 := br1 j4 rfl
    refine lv_astore_n (lv' := [(3, rf g (wB 0 + (36 + 2 * j4))), (0, rf g (0)), (1, .int (x)), (2, .int (y))]) hx hb dX10_tune_8 rfl hl (by decide) rfl (fun ls hl => ?_)
    refine lv_aload_n hx hb dX10_tune_9 rfl (lv_at hl 0 rfl) ?_
    refine lv_ifnull hx hb dX10_tune_10 ?_
    refine lv_iload_n hx hb dX10_tune_13 rfl (lv_at hl 3 rfl) ?_
    refine lv_iconst (v := 1) hx hb dX10_tune_14 (by decide) ?_
    refine lv_sipush (v := 1000) hx hb dX10_tune_15 (by decide) ?_
    obtain ⟨r5, M6, h7, h⟩ := bind2 h
    refine cBack C.2.2.2.2.2.2.2.2 (runS (As := [.int (y), .int (1), .int (1000)]) (rest := []) C hW hS (c_X10_isIn l g M2 y 1 1000 _ _ h7) kS_X10_isIn ml_X10_50 rfl hl.1 rfl (Nat.le_of_ble_eq_true rfl) ⟨Nat.le_of_ble_eq_true rfl, Nat.le_of_ble_eq_true rfl⟩ ⟨Nat.zero_le _, Nat.zero_le _⟩ dX10_tune_18) hS (fun v0 w0 H locs hp hW hS => ?_)
    obtain ⟨rfl, rfl, zr5⟩ := hp
    refine lv_if_ne (tgt := 26) hx hb dX10_tune_21 (by decide) (fun c8 => ?_) (fun c8 => ?_)
    · rw [if_neg c8] at h
      refine lv_aload_n hx hb dX10_tune_26 rfl (lv_at hl 0 rfl) ?_
      refine rGetN (k := 5) C hW (wB_lt h05 (by have := hj4; omega)) (tm_Bell h05 hj4) rfl inX0 (by decide) fl_X10_152 rfl dX10_tune_27 ?_
      refine lv_if_ne (tgt := 44) hx hb dX10_tune_30 (by decide) (fun c9 => ?_) (fun c9 => ?_)
      · rw [if_neg c9] at h
        refine lv_bipush (v := -2) hx hb dX10_tune_44 (by decide) ?_
        cases h
        exact rI C hr hlk dX10_tune_46 hW hS ⟨rfl, rfl⟩
      · rw [if_pos c9] at h
        refine lv_aload_n hx hb dX10_tune_33 rfl (lv_at hl 0 rfl) ?_
        refine rGetN (k := 0) C hW (wB_lt h05 (by have := hj4; omega)) (tm_Bell h05 hj4) rfl inX0 (by decide) fl_X10_157 rfl dX10_tune_34 ?_
        obtain ⟨r10, M11, h12, h⟩ := bind2 h
        refine cBack C.2.2.2.2.2.2.2.2 (runV (As := []) (rest := []) C hW hS (c_X6_weight l g M6 (wB 0 + (37 + 2 * j4)) 0 (54 + 8 * j4) (MX_bell h05 hj4) _ _ h12) kV_X6_weight ml_X10_79 (MX_bell h05 hj4).lt (MX_bell h05 hj4).cel rfl rfl rfl hl.1 rfl (Nat.le_of_ble_eq_true rfl) ⟨Nat.le_of_ble_eq_true rfl, Nat.le_of_ble_eq_true rfl⟩ ⟨Nat.zero_le _, Nat.zero_le _⟩ dX10_tune_37) hS (fun v0 w0 H locs hp hW hS => ?_)
        obtain ⟨rfl, rfl⟩ := hp
        refine lv_iload_n hx hb dX10_tune_40 rfl (lv_at hl 3 rfl) ?_
        refine lv_icmp_gt (tgt := 47) hx hb dX10_tune_41 (by decide) (fun c13 => ?_) (fun c13 => ?_)
        · rw [if_pos c13] at h
          refine lv_aload_n hx hb dX10_tune_47 rfl (lv_at hl 1 rfl) ?_
          refine rGet (k := 1) C hW (by decide) tm_BF rfl inX10 (by decide) fl_X10_19 rfl dX10_tune_48 ?_
          refine lv_aload_n hx hb dX10_tune_51 rfl (lv_at hl 1 rfl) ?_
          refine rGet (k := 0) C hW (by decide) tm_BF rfl inX10 (by decide) fl_X10_10 rfl dX10_tune_52 ?_
          obtain ⟨r14, M15, h16, h⟩ := bind2 h
          refine cBackV C.2.2.2.2.2.2.2.2 (runV (As := [rf g (wB 0)]) (rest := []) C hW hS (c_X3_keep l g M11 0 h05 _ _ h16) kV_X3_keep ml_X10_65 (by decide) tm_Hist rfl rfl rfl hl.1 rfl (Nat.le_of_ble_eq_true rfl) ⟨Nat.le_of_ble_eq_true rfl, Nat.le_of_ble_eq_true rfl⟩ ⟨Nat.zero_le _, Nat.zero_le _⟩ dX10_tune_55) hS (fun v0 H locs hp hW hS => ?_)
          subst hp
          refine lv_aload_n hx hb dX10_tune_58 rfl (lv_at hl 1 rfl) ?_
          refine rGet (k := 0) C hW (by decide) tm_BF rfl inX10 (by decide) fl_X10_10 rfl dX10_tune_59 ?_
          refine lv_aload_n hx hb dX10_tune_62 rfl (lv_at hl 0 rfl) ?_
          refine lv_iload_n hx hb dX10_tune_63 rfl (lv_at hl 3 rfl) ?_
          obtain ⟨r17, M18, h19, h⟩ := bind2 h
          refine cBackV C.2.2.2.2.2.2.2.2 (runV (As := [rf g (wB 0 + (36 + 2 * j4)), .int (y)]) (rest := []) C hW hS (c_X9_shave l g M15 0 j4 y h05 hj4 _ _ h19) kV_X9_shave ml_X10_158 (wB_lt (r := 0) h05 (by decide)) (tm_Works0 h05) rfl rfl rfl hl.1 rfl (Nat.le_of_ble_eq_true rfl) ⟨Nat.le_of_ble_eq_true rfl, Nat.le_of_ble_eq_true rfl⟩ ⟨Nat.zero_le _, Nat.zero_le _⟩ dX10_tune_64) hS (fun v0 H locs hp hW hS => ?_)
          subst hp
          refine lv_aload_n hx hb dX10_tune_67 rfl (lv_at hl 0 rfl) ?_
          refine rGetN (k := 2) C hW (wB_lt h05 (by have := hj4; omega)) (tm_Bell h05 hj4) rfl inX0 (by decide) fl_X10_162 rfl dX10_tune_68 ?_
          cases h
          exact rI C hr hlk dX10_tune_71 hW hS ⟨rfl, rfl⟩
        · rw [if_neg c13] at h
          refine lv_bipush (v := -2) hx hb dX10_tune_44 (by decide) ?_
          cases h
          exact rI C hr hlk dX10_tune_46 hW hS ⟨rfl, rfl⟩
    · rw [if_pos c8] at h
      refine lv_iconst (v := -1) hx hb dX10_tune_24 (by decide) ?_
      cases h
      exact rI C hr hlk dX10_tune_25 hW hS ⟨rfl, rfl⟩
def f_X10_smash (M : MM) (x : Int32) : Option (Int32 × MM) := (bnd2 (f_X9_bellAt M 0 x) fun r1 M2 => optE r1 (some (-1, M2)) (fun j4 => (bnd2 (f_X0_remains M2 0 j4) fun r5 M6 => (if (r5 : Int32) = 0 then some (-2, M6) else (bnd2 (f_X3_keep M6 0) fun r9 M10 => (bnd2 (f_X6_weight M10 0 (54 + 8 * j4)) fun r12 M13 => (bnd2 (f_X9_breakUp M13 0 j4) fun r15 M16 => some (r12, M16))))))))
set_option maxHeartbeats 4000000 in
set_option maxRecDepth 100000 in
theorem c_X10_smash (l : Launch) (g : GD) (M : MM) (x : Int32) (r : Int32) (M2 : MM) (h : f_X10_smash M x = some (r, M2)) : Met l yX10_smash (wm yX10_smash cX10_smash 4 (some .int)) (RM 4 86) (va_Pc [rf g (0), .int (x)] (WDp g M)) (QQ g (fun v w0 => v = .int r ∧ M2 = w0)) 0 0 (AA g) := by
  refine mkM (by decide +kernel) (Nat.le_of_ble_eq_true rfl) ?_
  intro p e s m below meth c C hr hlk hW hS ls hl
  have hl : lv_has ls 4 [(0, rf g (0)), (1, .int (x))] := hl
  have hx := C.1
  have hb := C.2.1
  have hts := C.2.2.2.2.1
  have h05 : (0 : Nat) < 5 := by decide
  unfold f_X10_smash at h
  refine lv_aload_n hx hb dX10_smash_0 rfl (lv_at hl 0 rfl) ?_
  refine rGet (k := 0) C hW (by decide) tm_BF rfl inX10 (by decide) fl_X10_10 rfl dX10_smash_1 ?_
  refine lv_iload_n hx hb dX10_smash_4 rfl (lv_at hl 1 rfl) ?_
  obtain ⟨r1, M2, h3, h⟩ := bind2 h
  refine cBack C.2.2.2.2.2.2.2.2 (runV (As := [.int (x)]) (rest := []) C hW hS (c_X9_bellAt l g M 0 x h05 _ _ h3) kV_X9_bellAt ml_X10_148 (wB_lt (r := 0) h05 (by decide)) (tm_Works0 h05) rfl rfl rfl hl.1 rfl (Nat.le_of_ble_eq_true rfl) ⟨Nat.le_of_ble_eq_true rfl, Nat.le_of_ble_eq_true rfl⟩ ⟨Nat.zero_le _, Nat.zero_le _⟩ dX10_smash_5) hS (fun v0 w0 H locs hp hW hS => ?_)
  obtain ⟨rfl, rfl, br1⟩ := hp
  rcases r1 with _ | j4
  · have h := optN h
    refine rAstNn (lv' := [(2, .null), (0, rf g (0)), (1, .int (x))]) C dX10_smash_8 rfl hl (by decide) rfl (fun ls hl => ?_)
    refine rAldNn C dX10_smash_9 rfl (lv_at hl 0 rfl) ?_
    refine lv_ifnonnullN hx hb dX10_smash_10 ?_
    refine lv_iconst (v := -1) hx hb dX10_smash_13 (by decide) ?_
    cases h
    exact rI C hr hlk dX10_smash_14 hW hS ⟨rfl, rfl⟩
  · have h := optS h
    have hj4 := br1 j4 rfl
    refine lv_astore_n (lv' := [(2, rf g (wB 0 + (36 + 2 * j4))), (0, rf g (0)), (1, .int (x))]) hx hb dX10_smash_8 rfl hl (by decide) rfl (fun ls hl => ?_)
    refine lv_aload_n hx hb dX10_smash_9 rfl (lv_at hl 0 rfl) ?_
    refine lv_ifnonnull (tgt := 15) hx hb dX10_smash_10 (by decide) ?_
    refine lv_aload_n hx hb dX10_smash_15 rfl (lv_at hl 0 rfl) ?_
    obtain ⟨r5, M6, h7, h⟩ := bind2 h
    refine cBack C.2.2.2.2.2.2.2.2 (runV (As := []) (rest := []) C hW hS (c_X0_remains l g M2 0 j4 h05 hj4 _ _ h7) kV_X0_remains ml_X10_165 (wB_lt h05 (by have := hj4; omega)) (tm_Bell h05 hj4) rfl rfl rfl hl.1 rfl (Nat.le_of_ble_eq_true rfl) ⟨Nat.le_of_ble_eq_true rfl, Nat.le_of_ble_eq_true rfl⟩ ⟨Nat.zero_le _, Nat.zero_le _⟩ dX10_smash_16) hS (fun v0 w0 H locs hp hW hS => ?_)
    obtain ⟨rfl, rfl, zr5⟩ := hp
    refine lv_if_ne (tgt := 25) hx hb dX10_smash_19 (by decide) (fun c8 => ?_) (fun c8 => ?_)
    · rw [if_neg c8] at h
      refine lv_aload_n hx hb dX10_smash_25 rfl (lv_at hl 1 rfl) ?_
      refine rGet (k := 1) C hW (by decide) tm_BF rfl inX10 (by decide) fl_X10_19 rfl dX10_smash_26 ?_
      refine lv_aload_n hx hb dX10_smash_29 rfl (lv_at hl 1 rfl) ?_
      refine rGet (k := 0) C hW (by decide) tm_BF rfl inX10 (by decide) fl_X10_10 rfl dX10_smash_30 ?_
      obtain ⟨r9, M10, h11, h⟩ := bind2 h
      refine cBackV C.2.2.2.2.2.2.2.2 (runV (As := [rf g (wB 0)]) (rest := []) C hW hS (c_X3_keep l g M6 0 h05 _ _ h11) kV_X3_keep ml_X10_65 (by decide) tm_Hist rfl rfl rfl hl.1 rfl (Nat.le_of_ble_eq_true rfl) ⟨Nat.le_of_ble_eq_true rfl, Nat.le_of_ble_eq_true rfl⟩ ⟨Nat.zero_le _, Nat.zero_le _⟩ dX10_smash_33) hS (fun v0 H locs hp hW hS => ?_)
      subst hp
      refine lv_aload_n hx hb dX10_smash_36 rfl (lv_at hl 0 rfl) ?_
      refine rGetN (k := 0) C hW (wB_lt h05 (by have := hj4; omega)) (tm_Bell h05 hj4) rfl inX0 (by decide) fl_X10_157 rfl dX10_smash_37 ?_
      obtain ⟨r12, M13, h14, h⟩ := bind2 h
      refine cBack C.2.2.2.2.2.2.2.2 (runV (As := []) (rest := []) C hW hS (c_X6_weight l g M10 (wB 0 + (37 + 2 * j4)) 0 (54 + 8 * j4) (MX_bell h05 hj4) _ _ h14) kV_X6_weight ml_X10_79 (MX_bell h05 hj4).lt (MX_bell h05 hj4).cel rfl rfl rfl hl.1 rfl (Nat.le_of_ble_eq_true rfl) ⟨Nat.le_of_ble_eq_true rfl, Nat.le_of_ble_eq_true rfl⟩ ⟨Nat.zero_le _, Nat.zero_le _⟩ dX10_smash_40) hS (fun v0 w0 H locs hp hW hS => ?_)
      obtain ⟨rfl, rfl⟩ := hp
      refine lv_istore_n (lv' := [(3, .int (r12)), (2, rf g (wB 0 + (36 + 2 * j4))), (0, rf g (0)), (1, .int (x))]) hx hb dX10_smash_43 rfl hl (by decide) rfl (fun ls hl => ?_)
      refine lv_aload_n hx hb dX10_smash_44 rfl (lv_at hl 2 rfl) ?_
      refine rGet (k := 0) C hW (by decide) tm_BF rfl inX10 (by decide) fl_X10_10 rfl dX10_smash_45 ?_
      refine lv_aload_n hx hb dX10_smash_48 rfl (lv_at hl 1 rfl) ?_
      obtain ⟨r15, M16, h17, h⟩ := bind2 h
      refine cBackV C.2.2.2.2.2.2.2.2 (runV (As := [rf g (wB 0 + (36 + 2 * j4))]) (rest := []) C hW hS (c_X9_breakUp l g M13 0 j4 h05 hj4 _ _ h17) kV_X9_breakUp ml_X10_169 (wB_lt (r := 0) h05 (by decide)) (tm_Works0 h05) rfl rfl rfl hl.1 rfl (Nat.le_of_ble_eq_true rfl) ⟨Nat.le_of_ble_eq_true rfl, Nat.le_of_ble_eq_true rfl⟩ ⟨Nat.zero_le _, Nat.zero_le _⟩ dX10_smash_49) hS (fun v0 H locs hp hW hS => ?_)
      subst hp
      refine lv_iload_n hx hb dX10_smash_52 rfl (lv_at hl 0 rfl) ?_
      cases h
      exact rI C hr hlk dX10_smash_53 hW hS ⟨rfl, rfl⟩
    · rw [if_pos c8] at h
      refine lv_bipush (v := -2) hx hb dX10_smash_22 (by decide) ?_
      cases h
      exact rI C hr hlk dX10_smash_24 hW hS ⟨rfl, rfl⟩
def f_X10_bell (M : MM) (x : Int32) (y : Int32) : Option (Int32 × MM) := (bnd2 (f_X9_bellAt M 0 x) fun r1 M2 => optE r1 (some (-1, M2)) (fun j4 => (bnd2 (f_X10_isIn M2 y 0 9) fun r5 M6 => (if (r5 : Int32) = 0 then some (-1, M6) else (if (y : Int32) = 4 then some (M6 0 (56 + 8 * j4), M6) else (if (y : Int32) = 5 then some (M6 0 (57 + 8 * j4), M6) else (if (y : Int32) = 6 then some (M6 0 (58 + 8 * j4), M6) else (if (y : Int32) = 7 then some (M6 0 (59 + 8 * j4), M6) else (if (y : Int32) = 8 then some (M6 0 (60 + 8 * j4), M6) else (if (y : Int32) = 9 then (if (M6 0 (60 + 8 * j4) : Int32) = (2 : Int32) then some (M6 0 (61 + 8 * j4), M6) else some (-4, M6)) else (if (M6 0 (60 + 8 * j4) : Int32) = (3 : Int32) then some (-4, M6) else (bnd2 (f_X6_tell M6 0 (54 + 8 * j4) y) fun r17 M18 => some (r17, M18)))))))))))))
set_option maxHeartbeats 4000000 in
set_option maxRecDepth 100000 in
theorem c_X10_bell (l : Launch) (g : GD) (M : MM) (x : Int32) (y : Int32) (r : Int32) (M2 : MM) (h : f_X10_bell M x y = some (r, M2)) : Met l yX10_bell (wm yX10_bell cX10_bell 4 (some .int)) (RM 3 62) (va_Pc [rf g (0), .int (x), .int (y)] (WDp g M)) (QQ g (fun v w0 => v = .int r ∧ M2 = w0)) 0 0 (AA g) := by
  refine mkM (by decide +kernel) (Nat.le_of_ble_eq_true rfl) ?_
  intro p e s m below meth c C hr hlk hW hS ls hl
  have hl : lv_has ls 4 [(0, rf g (0)), (1, .int (x)), (2, .int (y))] := hl
  have hx := C.1
  have hb := C.2.1
  have hts := C.2.2.2.2.1
  have h05 : (0 : Nat) < 5 := by decide
  unfold f_X10_bell at h
  refine lv_aload_n hx hb dX10_bell_0 rfl (lv_at hl 0 rfl) ?_
  refine rGet (k := 0) C hW (by decide) tm_BF rfl inX10 (by decide) fl_X10_10 rfl dX10_bell_1 ?_
  refine lv_iload_n hx hb dX10_bell_4 rfl (lv_at hl 1 rfl) ?_
  obtain ⟨r1, M2, h3, h⟩ := bind2 h
  refine cBack C.2.2.2.2.2.2.2.2 (runV (As := [.int (x)]) (rest := []) C hW hS (c_X9_bellAt l g M 0 x h05 _ _ h3) kV_X9_bellAt ml_X10_148 (wB_lt (r := 0) h05 (by decide)) (tm_Works0 h05) rfl rfl rfl hl.1 rfl (Nat.le_of_ble_eq_true rfl) ⟨Nat.le_of_ble_eq_true rfl, Nat.le_of_ble_eq_true rfl⟩ ⟨Nat.zero_le _, Nat.zero_le _⟩ dX10_bell_5) hS (fun v0 w0 H locs hp hW hS => ?_)
  obtain ⟨rfl, rfl, br1⟩ := hp
  rcases r1 with _ | j4
  · have h := optN h
    refine rAstNn (lv' := [(3, .null), (0, rf g (0)), (1, .int (x)), (2, .int (y))]) C dX10_bell_8 rfl hl (by decide) rfl (fun ls hl => ?_)
    refine rAldNn C dX10_bell_9 rfl (lv_at hl 0 rfl) ?_
    refine lv_ifnullN (tgt := 23) hx hb dX10_bell_10 (by decide) ?_
    refine lv_iconst (v := -1) hx hb dX10_bell_23 (by decide) ?_
    cases h
    exact rI C hr hlk dX10_bell_24 hW hS ⟨rfl, rfl⟩
  · have h := optS h
    have hj4 := br1 j4 rfl
    refine lv_astore_n (lv' := [(3, rf g (wB 0 + (36 + 2 * j4))), (0, rf g (0)), (1, .int (x)), (2, .int (y))]) hx hb dX10_bell_8 rfl hl (by decide) rfl (fun ls hl => ?_)
    refine lv_aload_n hx hb dX10_bell_9 rfl (lv_at hl 0 rfl) ?_
    refine lv_ifnull hx hb dX10_bell_10 ?_
    refine lv_iload_n hx hb dX10_bell_13 rfl (lv_at hl 3 rfl) ?_
    refine lv_iconst (v := 0) hx hb dX10_bell_14 (by decide) ?_
    refine lv_bipush (v := 9) hx hb dX10_bell_15 (by decide) ?_
    obtain ⟨r5, M6, h7, h⟩ := bind2 h
    refine cBack C.2.2.2.2.2.2.2.2 (runS (As := [.int (y), .int (0), .int (9)]) (rest := []) C hW hS (c_X10_isIn l g M2 y 0 9 _ _ h7) kS_X10_isIn ml_X10_50 rfl hl.1 rfl (Nat.le_of_ble_eq_true rfl) ⟨Nat.le_of_ble_eq_true rfl, Nat.le_of_ble_eq_true rfl⟩ ⟨Nat.zero_le _, Nat.zero_le _⟩ dX10_bell_17) hS (fun v0 w0 H locs hp hW hS => ?_)
    obtain ⟨rfl, rfl, zr5⟩ := hp
    refine lv_if_ne (tgt := 25) hx hb dX10_bell_20 (by decide) (fun c8 => ?_) (fun c8 => ?_)
    · rw [if_neg c8] at h
      refine lv_iload_n hx hb dX10_bell_25 rfl (lv_at hl 3 rfl) ?_
      by_cases c9 : (y : Int32) = 4
      · rw [if_pos c9] at h
        refine lv_tableIn (off := 38) (tgt := 64) hx hb dX10_bell_26 (by rw [c9]; decide) (by rw [c9]; decide) (by rw [c9]; rfl) (by decide) ?_
        refine lv_aload_n hx hb dX10_bell_64 rfl (lv_at hl 0 rfl) ?_
        refine rGetN (k := 1) C hW (wB_lt h05 (by have := hj4; omega)) (tm_Bell h05 hj4) rfl inX0 (by decide) fl_X10_173 rfl dX10_bell_65 ?_
        cases h
        exact rI C hr hlk dX10_bell_68 hW hS ⟨rfl, rfl⟩
      rw [if_neg c9] at h
      by_cases c10 : (y : Int32) = 5
      · rw [if_pos c10] at h
        refine lv_tableIn (off := 43) (tgt := 69) hx hb dX10_bell_26 (by rw [c10]; decide) (by rw [c10]; decide) (by rw [c10]; rfl) (by decide) ?_
        refine lv_aload_n hx hb dX10_bell_69 rfl (lv_at hl 0 rfl) ?_
        refine rGetN (k := 2) C hW (wB_lt h05 (by have := hj4; omega)) (tm_Bell h05 hj4) rfl inX0 (by decide) fl_X10_162 rfl dX10_bell_70 ?_
        cases h
        exact rI C hr hlk dX10_bell_73 hW hS ⟨rfl, rfl⟩
      rw [if_neg c10] at h
      by_cases c11 : (y : Int32) = 6
      · rw [if_pos c11] at h
        refine lv_tableIn (off := 48) (tgt := 74) hx hb dX10_bell_26 (by rw [c11]; decide) (by rw [c11]; decide) (by rw [c11]; rfl) (by decide) ?_
        refine lv_aload_n hx hb dX10_bell_74 rfl (lv_at hl 0 rfl) ?_
        refine rGetN (k := 3) C hW (wB_lt h05 (by have := hj4; omega)) (tm_Bell h05 hj4) rfl inX0 (by decide) fl_X10_176 rfl dX10_bell_75 ?_
        cases h
        exact rI C hr hlk dX10_bell_78 hW hS ⟨rfl, rfl⟩
      rw [if_neg c11] at h
      by_cases c12 : (y : Int32) = 7
      · rw [if_pos c12] at h
        refine lv_tableIn (off := 53) (tgt := 79) hx hb dX10_bell_26 (by rw [c12]; decide) (by rw [c12]; decide) (by rw [c12]; rfl) (by decide) ?_
        refine lv_aload_n hx hb dX10_bell_79 rfl (lv_at hl 0 rfl) ?_
        refine rGetN (k := 4) C hW (wB_lt h05 (by have := hj4; omega)) (tm_Bell h05 hj4) rfl inX0 (by decide) fl_X10_179 rfl dX10_bell_80 ?_
        cases h
        exact rI C hr hlk dX10_bell_83 hW hS ⟨rfl, rfl⟩
      rw [if_neg c12] at h
      by_cases c13 : (y : Int32) = 8
      · rw [if_pos c13] at h
        refine lv_tableIn (off := 58) (tgt := 84) hx hb dX10_bell_26 (by rw [c13]; decide) (by rw [c13]; decide) (by rw [c13]; rfl) (by decide) ?_
        refine lv_aload_n hx hb dX10_bell_84 rfl (lv_at hl 0 rfl) ?_
        refine rGetN (k := 5) C hW (wB_lt h05 (by have := hj4; omega)) (tm_Bell h05 hj4) rfl inX0 (by decide) fl_X10_152 rfl dX10_bell_85 ?_
        cases h
        exact rI C hr hlk dX10_bell_88 hW hS ⟨rfl, rfl⟩
      rw [if_neg c13] at h
      by_cases c14 : (y : Int32) = 9
      · rw [if_pos c14] at h
        refine lv_tableIn (off := 63) (tgt := 89) hx hb dX10_bell_26 (by rw [c14]; decide) (by rw [c14]; decide) (by rw [c14]; rfl) (by decide) ?_
        refine lv_aload_n hx hb dX10_bell_89 rfl (lv_at hl 0 rfl) ?_
        refine rGetN (k := 5) C hW (wB_lt h05 (by have := hj4; omega)) (tm_Bell h05 hj4) rfl inX0 (by decide) fl_X10_152 rfl dX10_bell_90 ?_
        refine lv_iconst (v := 2) hx hb dX10_bell_93 (by decide) ?_
        refine lv_icmp_ne (tgt := 104) hx hb dX10_bell_94 (by decide) (fun c15 => ?_) (fun c15 => ?_)
        · rw [if_neg c15] at h
          refine lv_bipush (v := -4) hx hb dX10_bell_104 (by decide) ?_
          cases h
          exact rI C hr hlk dX10_bell_106 hW hS ⟨rfl, rfl⟩
        · rw [if_pos c15] at h
          refine lv_aload_n hx hb dX10_bell_97 rfl (lv_at hl 0 rfl) ?_
          refine rGetN (k := 6) C hW (wB_lt h05 (by have := hj4; omega)) (tm_Bell h05 hj4) rfl inX0 (by decide) fl_X10_182 rfl dX10_bell_98 ?_
          refine lv_goto (tgt := 106) hx hb dX10_bell_101 (by decide) ?_
          cases h
          exact rI C hr hlk dX10_bell_106 hW hS ⟨rfl, rfl⟩
      rw [if_neg c14] at h
      refine lv_tableOut (tgt := 107) hx hb dX10_bell_26 (by have nc9 := lv_neT (a := 4) c9 rfl; have nc10 := lv_neT (a := 5) c10 rfl; have nc11 := lv_neT (a := 6) c11 rfl; have nc12 := lv_neT (a := 7) c12 rfl; have nc13 := lv_neT (a := 8) c13 rfl; have nc14 := lv_neT (a := 9) c14 rfl; omega) (by decide) ?_
      refine lv_aload_n hx hb dX10_bell_107 rfl (lv_at hl 0 rfl) ?_
      refine rGetN (k := 5) C hW (wB_lt h05 (by have := hj4; omega)) (tm_Bell h05 hj4) rfl inX0 (by decide) fl_X10_152 rfl dX10_bell_108 ?_
      refine lv_iconst (v := 3) hx hb dX10_bell_111 (by decide) ?_
      refine lv_icmp_ne (tgt := 120) hx hb dX10_bell_112 (by decide) (fun c16 => ?_) (fun c16 => ?_)
      · rw [if_neg c16] at h
        refine lv_aload_n hx hb dX10_bell_120 rfl (lv_at hl 0 rfl) ?_
        refine rGetN (k := 0) C hW (wB_lt h05 (by have := hj4; omega)) (tm_Bell h05 hj4) rfl inX0 (by decide) fl_X10_157 rfl dX10_bell_121 ?_
        refine lv_iload_n hx hb dX10_bell_124 rfl (lv_at hl 3 rfl) ?_
        obtain ⟨r17, M18, h19, h⟩ := bind2 h
        refine cBack C.2.2.2.2.2.2.2.2 (runV (As := [.int (y)]) (rest := []) C hW hS (c_X6_tell l g M6 (wB 0 + (37 + 2 * j4)) 0 (54 + 8 * j4) y (MX_bell h05 hj4) _ _ h19) kV_X6_tell ml_X10_109 (MX_bell h05 hj4).lt (MX_bell h05 hj4).cel rfl rfl rfl hl.1 rfl (Nat.le_of_ble_eq_true rfl) ⟨Nat.le_of_ble_eq_true rfl, Nat.le_of_ble_eq_true rfl⟩ ⟨Nat.zero_le _, Nat.zero_le _⟩ dX10_bell_125) hS (fun v0 w0 H locs hp hW hS => ?_)
        obtain ⟨rfl, rfl⟩ := hp
        cases h
        exact rI C hr hlk dX10_bell_128 hW hS ⟨rfl, rfl⟩
      · rw [if_pos c16] at h
        refine lv_bipush (v := -4) hx hb dX10_bell_115 (by decide) ?_
        refine lv_goto (tgt := 128) hx hb dX10_bell_117 (by decide) ?_
        cases h
        exact rI C hr hlk dX10_bell_128 hW hS ⟨rfl, rfl⟩
    · rw [if_pos c8] at h
      refine lv_iconst (v := -1) hx hb dX10_bell_23 (by decide) ?_
      cases h
      exact rI C hr hlk dX10_bell_24 hW hS ⟨rfl, rfl⟩
def f_X10_order (M : MM) (x : Int32) (y : Int32) (u : Int32) : Option (Int32 × MM) := (bnd2 (f_X10_isProfile M x) fun r1 M2 => (if (r1 : Int32) = 0 then some (-1, M2) else (bnd2 (f_X10_isIn M2 y 1 20000) fun r5 M6 => (if (r5 : Int32) = 0 then some (-1, M6) else (bnd2 (f_X10_isIn M6 u 0 500) fun r9 M10 => (if (r9 : Int32) = 0 then some (-1, M10) else (bnd2 (f_X9_ordersIn M10 0 0) fun r13 M14 => (if (8 : Int32) ≤ (r13 : Int32) then some (-3, M14) else (if (M14 0 53 : Int32) < (100 : Int32) then (bnd2 (f_X3_keep M14 0) fun r18 M19 => (bnd2 (f_X9_takeOrder M19 0 x y u) fun r21 M22 => some (r21, M22))) else some (-3, M14))))))))))
set_option maxHeartbeats 4000000 in
set_option maxRecDepth 100000 in
theorem c_X10_order (l : Launch) (g : GD) (M : MM) (x : Int32) (y : Int32) (u : Int32) (r : Int32) (M2 : MM) (h : f_X10_order M x y u = some (r, M2)) : Met l yX10_order (wm yX10_order cX10_order 4 (some .int)) (RM 4 86) (va_Pc [rf g (0), .int (x), .int (y), .int (u)] (WDp g M)) (QQ g (fun v w0 => v = .int r ∧ M2 = w0)) 0 0 (AA g) := by
  refine mkM (by decide +kernel) (Nat.le_of_ble_eq_true rfl) ?_
  intro p e s m below meth c C hr hlk hW hS ls hl
  have hl : lv_has ls 4 [(0, rf g (0)), (1, .int (x)), (2, .int (y)), (3, .int (u))] := hl
  have hx := C.1
  have hb := C.2.1
  have hts := C.2.2.2.2.1
  have h05 : (0 : Nat) < 5 := by decide
  unfold f_X10_order at h
  refine lv_iload_n hx hb dX10_order_0 rfl (lv_at hl 1 rfl) ?_
  obtain ⟨r1, M2, h3, h⟩ := bind2 h
  refine cBack C.2.2.2.2.2.2.2.2 (runS (As := [.int (x)]) (rest := []) C hW hS (c_X10_isProfile l g M x _ _ h3) kS_X10_isProfile ml_X10_132 rfl hl.1 rfl (Nat.le_of_ble_eq_true rfl) ⟨Nat.le_of_ble_eq_true rfl, Nat.le_of_ble_eq_true rfl⟩ ⟨Nat.zero_le _, Nat.zero_le _⟩ dX10_order_1) hS (fun v0 w0 H locs hp hW hS => ?_)
  obtain ⟨rfl, rfl, zr1⟩ := hp
  refine lv_if_eq (tgt := 29) hx hb dX10_order_4 (by decide) (fun c4 => ?_) (fun c4 => ?_)
  · rw [if_pos c4] at h
    refine lv_iconst (v := -1) hx hb dX10_order_29 (by decide) ?_
    cases h
    exact rI C hr hlk dX10_order_30 hW hS ⟨rfl, rfl⟩
  · rw [if_neg c4] at h
    refine lv_iload_n hx hb dX10_order_7 rfl (lv_at hl 2 rfl) ?_
    refine lv_iconst (v := 1) hx hb dX10_order_8 (by decide) ?_
    refine lv_sipush (v := 20000) hx hb dX10_order_9 (by decide) ?_
    obtain ⟨r5, M6, h7, h⟩ := bind2 h
    refine cBack C.2.2.2.2.2.2.2.2 (runS (As := [.int (y), .int (1), .int (20000)]) (rest := []) C hW hS (c_X10_isIn l g M2 y 1 20000 _ _ h7) kS_X10_isIn ml_X10_50 rfl hl.1 rfl (Nat.le_of_ble_eq_true rfl) ⟨Nat.le_of_ble_eq_true rfl, Nat.le_of_ble_eq_true rfl⟩ ⟨Nat.zero_le _, Nat.zero_le _⟩ dX10_order_12) hS (fun v0 w0 H locs hp hW hS => ?_)
    obtain ⟨rfl, rfl, zr5⟩ := hp
    refine lv_if_eq (tgt := 29) hx hb dX10_order_15 (by decide) (fun c8 => ?_) (fun c8 => ?_)
    · rw [if_pos c8] at h
      refine lv_iconst (v := -1) hx hb dX10_order_29 (by decide) ?_
      cases h
      exact rI C hr hlk dX10_order_30 hW hS ⟨rfl, rfl⟩
    · rw [if_neg c8] at h
      refine lv_iload_n hx hb dX10_order_18 rfl (lv_at hl 3 rfl) ?_
      refine lv_iconst (v := 0) hx hb dX10_order_19 (by decide) ?_
      refine lv_sipush (v := 500) hx hb dX10_order_20 (by decide) ?_
      obtain ⟨r9, M10, h11, h⟩ := bind2 h
      refine cBack C.2.2.2.2.2.2.2.2 (runS (As := [.int (u), .int (0), .int (500)]) (rest := []) C hW hS (c_X10_isIn l g M6 u 0 500 _ _ h11) kS_X10_isIn ml_X10_50 rfl hl.1 rfl (Nat.le_of_ble_eq_true rfl) ⟨Nat.le_of_ble_eq_true rfl, Nat.le_of_ble_eq_true rfl⟩ ⟨Nat.zero_le _, Nat.zero_le _⟩ dX10_order_23) hS (fun v0 w0 H locs hp hW hS => ?_)
      obtain ⟨rfl, rfl, zr9⟩ := hp
      refine lv_if_ne (tgt := 31) hx hb dX10_order_26 (by decide) (fun c12 => ?_) (fun c12 => ?_)
      · rw [if_neg c12] at h
        refine lv_aload_n hx hb dX10_order_31 rfl (lv_at hl 0 rfl) ?_
        refine rGet (k := 0) C hW (by decide) tm_BF rfl inX10 (by decide) fl_X10_10 rfl dX10_order_32 ?_
        refine lv_iconst (v := 0) hx hb dX10_order_35 (by decide) ?_
        obtain ⟨r13, M14, h15, h⟩ := bind2 h
        refine cBack C.2.2.2.2.2.2.2.2 (runV (As := [.int (0)]) (rest := []) C hW hS (c_X9_ordersIn l g M10 0 0 h05 _ _ h15) kV_X9_ordersIn ml_X10_185 (wB_lt (r := 0) h05 (by decide)) (tm_Works0 h05) rfl rfl rfl hl.1 rfl (Nat.le_of_ble_eq_true rfl) ⟨Nat.le_of_ble_eq_true rfl, Nat.le_of_ble_eq_true rfl⟩ ⟨Nat.zero_le _, Nat.zero_le _⟩ dX10_order_36) hS (fun v0 w0 H locs hp hW hS => ?_)
        obtain ⟨rfl, rfl⟩ := hp
        refine lv_bipush (v := 8) hx hb dX10_order_39 (by decide) ?_
        refine lv_icmp_ge (tgt := 56) hx hb dX10_order_41 (by decide) (fun c16 => ?_) (fun c16 => ?_)
        · rw [if_pos c16] at h
          refine lv_bipush (v := -3) hx hb dX10_order_56 (by decide) ?_
          cases h
          exact rI C hr hlk dX10_order_58 hW hS ⟨rfl, rfl⟩
        · rw [if_neg c16] at h
          refine lv_aload_n hx hb dX10_order_44 rfl (lv_at hl 0 rfl) ?_
          refine rGet (k := 0) C hW (by decide) tm_BF rfl inX10 (by decide) fl_X10_10 rfl dX10_order_45 ?_
          refine rGetN (k := 9) C hW (wB_lt (r := 0) h05 (by decide)) (tm_Works0 h05) rfl inX9 (by decide) fl_X10_188 rfl dX10_order_48 ?_
          refine lv_bipush (v := 100) hx hb dX10_order_51 (by decide) ?_
          refine lv_icmp_lt (tgt := 59) hx hb dX10_order_53 (by decide) (fun c17 => ?_) (fun c17 => ?_)
          · rw [if_pos c17] at h
            refine lv_aload_n hx hb dX10_order_59 rfl (lv_at hl 0 rfl) ?_
            refine rGet (k := 1) C hW (by decide) tm_BF rfl inX10 (by decide) fl_X10_19 rfl dX10_order_60 ?_
            refine lv_aload_n hx hb dX10_order_63 rfl (lv_at hl 0 rfl) ?_
            refine rGet (k := 0) C hW (by decide) tm_BF rfl inX10 (by decide) fl_X10_10 rfl dX10_order_64 ?_
            obtain ⟨r18, M19, h20, h⟩ := bind2 h
            refine cBackV C.2.2.2.2.2.2.2.2 (runV (As := [rf g (wB 0)]) (rest := []) C hW hS (c_X3_keep l g M14 0 h05 _ _ h20) kV_X3_keep ml_X10_65 (by decide) tm_Hist rfl rfl rfl hl.1 rfl (Nat.le_of_ble_eq_true rfl) ⟨Nat.le_of_ble_eq_true rfl, Nat.le_of_ble_eq_true rfl⟩ ⟨Nat.zero_le _, Nat.zero_le _⟩ dX10_order_67) hS (fun v0 H locs hp hW hS => ?_)
            subst hp
            refine lv_aload_n hx hb dX10_order_70 rfl (lv_at hl 0 rfl) ?_
            refine rGet (k := 0) C hW (by decide) tm_BF rfl inX10 (by decide) fl_X10_10 rfl dX10_order_71 ?_
            refine lv_iload_n hx hb dX10_order_74 rfl (lv_at hl 1 rfl) ?_
            refine lv_iload_n hx hb dX10_order_75 rfl (lv_at hl 2 rfl) ?_
            refine lv_iload_n hx hb dX10_order_76 rfl (lv_at hl 3 rfl) ?_
            obtain ⟨r21, M22, h23, h⟩ := bind2 h
            refine cBack C.2.2.2.2.2.2.2.2 (runV (As := [.int (x), .int (y), .int (u)]) (rest := []) C hW hS (c_X9_takeOrder l g M19 0 x y u h05 _ _ h23) kV_X9_takeOrder ml_X10_191 (wB_lt (r := 0) h05 (by decide)) (tm_Works0 h05) rfl rfl rfl hl.1 rfl (Nat.le_of_ble_eq_true rfl) ⟨Nat.le_of_ble_eq_true rfl, Nat.le_of_ble_eq_true rfl⟩ ⟨Nat.zero_le _, Nat.zero_le _⟩ dX10_order_77) hS (fun v0 w0 H locs hp hW hS => ?_)
            obtain ⟨rfl, rfl⟩ := hp
            cases h
            exact rI C hr hlk dX10_order_80 hW hS ⟨rfl, rfl⟩
          · rw [if_neg c17] at h
            refine lv_bipush (v := -3) hx hb dX10_order_56 (by decide) ?_
            cases h
            exact rI C hr hlk dX10_order_58 hW hS ⟨rfl, rfl⟩
      · rw [if_pos c12] at h
        refine lv_iconst (v := -1) hx hb dX10_order_29 (by decide) ?_
        cases h
        exact rI C hr hlk dX10_order_30 hW hS ⟨rfl, rfl⟩
def f_X10_cancel (M : MM) (x : Int32) : Option (Int32 × MM) := (bnd2 (f_X9_orderAt M 0 x) fun r1 M2 => optE r1 (some (-1, M2)) (fun j4 => (if (M2 0 (857 + 4 * j4) : Int32) = 0 then (bnd2 (f_X3_keep M2 0) fun r6 M7 => (letB (up2 M7 0 (857 + 4 * j4) (2)) fun M9 => (bnd2 (f_X9_ordersIn M9 0 0) fun r10 M11 => some (r10, M11)))) else some (-2, M2))))
set_option maxHeartbeats 4000000 in
set_option maxRecDepth 100000 in
theorem c_X10_cancel (l : Launch) (g : GD) (M : MM) (x : Int32) (r : Int32) (M2 : MM) (h : f_X10_cancel M x = some (r, M2)) : Met l yX10_cancel (wm yX10_cancel cX10_cancel 3 (some .int)) (RM 4 86) (va_Pc [rf g (0), .int (x)] (WDp g M)) (QQ g (fun v w0 => v = .int r ∧ M2 = w0)) 0 0 (AA g) := by
  refine mkM (by decide +kernel) (Nat.le_of_ble_eq_true rfl) ?_
  intro p e s m below meth c C hr hlk hW hS ls hl
  have hl : lv_has ls 3 [(0, rf g (0)), (1, .int (x))] := hl
  have hx := C.1
  have hb := C.2.1
  have hts := C.2.2.2.2.1
  have h05 : (0 : Nat) < 5 := by decide
  unfold f_X10_cancel at h
  refine lv_aload_n hx hb dX10_cancel_0 rfl (lv_at hl 0 rfl) ?_
  refine rGet (k := 0) C hW (by decide) tm_BF rfl inX10 (by decide) fl_X10_10 rfl dX10_cancel_1 ?_
  refine lv_iload_n hx hb dX10_cancel_4 rfl (lv_at hl 1 rfl) ?_
  obtain ⟨r1, M2, h3, h⟩ := bind2 h
  refine cBack C.2.2.2.2.2.2.2.2 (runV (As := [.int (x)]) (rest := []) C hW hS (c_X9_orderAt l g M 0 x h05 _ _ h3) kV_X9_orderAt ml_X10_195 (wB_lt (r := 0) h05 (by decide)) (tm_Works0 h05) rfl rfl rfl hl.1 rfl (Nat.le_of_ble_eq_true rfl) ⟨Nat.le_of_ble_eq_true rfl, Nat.le_of_ble_eq_true rfl⟩ ⟨Nat.zero_le _, Nat.zero_le _⟩ dX10_cancel_5) hS (fun v0 w0 H locs hp hW hS => ?_)
  obtain ⟨rfl, rfl, br1⟩ := hp
  rcases r1 with _ | j4
  · have h := optN h
    refine rAstNn (lv' := [(2, .null), (0, rf g (0)), (1, .int (x))]) C dX10_cancel_8 rfl hl (by decide) rfl (fun ls hl => ?_)
    refine rAldNn C dX10_cancel_9 rfl (lv_at hl 0 rfl) ?_
    refine lv_ifnonnullN hx hb dX10_cancel_10 ?_
    refine lv_iconst (v := -1) hx hb dX10_cancel_13 (by decide) ?_
    cases h
    exact rI C hr hlk dX10_cancel_14 hW hS ⟨rfl, rfl⟩
  · have h := optS h
    have hj4 := br1 j4 rfl
    refine lv_astore_n (lv' := [(2, rf g (wB 0 + (236 + j4))), (0, rf g (0)), (1, .int (x))]) hx hb dX10_cancel_8 rfl hl (by decide) rfl (fun ls hl => ?_)
    refine lv_aload_n hx hb dX10_cancel_9 rfl (lv_at hl 0 rfl) ?_
    refine lv_ifnonnull (tgt := 15) hx hb dX10_cancel_10 (by decide) ?_
    refine lv_aload_n hx hb dX10_cancel_15 rfl (lv_at hl 0 rfl) ?_
    refine rGetN (k := 3) C hW (wB_lt h05 (by have := hj4; omega)) (tm_Order h05 hj4) rfl inX7 (by decide) fl_X10_199 rfl dX10_cancel_16 ?_
    refine lv_if_eq (tgt := 25) hx hb dX10_cancel_19 (by decide) (fun c5 => ?_) (fun c5 => ?_)
    · rw [if_pos c5] at h
      refine lv_aload_n hx hb dX10_cancel_25 rfl (lv_at hl 1 rfl) ?_
      refine rGet (k := 1) C hW (by decide) tm_BF rfl inX10 (by decide) fl_X10_19 rfl dX10_cancel_26 ?_
      refine lv_aload_n hx hb dX10_cancel_29 rfl (lv_at hl 1 rfl) ?_
      refine rGet (k := 0) C hW (by decide) tm_BF rfl inX10 (by decide) fl_X10_10 rfl dX10_cancel_30 ?_
      obtain ⟨r6, M7, h8, h⟩ := bind2 h
      refine cBackV C.2.2.2.2.2.2.2.2 (runV (As := [rf g (wB 0)]) (rest := []) C hW hS (c_X3_keep l g M2 0 h05 _ _ h8) kV_X3_keep ml_X10_65 (by decide) tm_Hist rfl rfl rfl hl.1 rfl (Nat.le_of_ble_eq_true rfl) ⟨Nat.le_of_ble_eq_true rfl, Nat.le_of_ble_eq_true rfl⟩ ⟨Nat.zero_le _, Nat.zero_le _⟩ dX10_cancel_33) hS (fun v0 H locs hp hW hS => ?_)
      subst hp
      refine lv_aload_n hx hb dX10_cancel_36 rfl (lv_at hl 0 rfl) ?_
      refine lv_iconst (v := 2) hx hb dX10_cancel_37 (by decide) ?_
      refine rPutN (k := 3) C hW hS (wB_lt h05 (by have := hj4; omega)) (tm_Order h05 hj4) rfl inX7 tyX7_ok nmX7 (by decide) fl_X10_199 rfl (by decide +kernel) (Nat.le_of_ble_eq_true rfl) (upd_Order_state h05 hj4 _) dX10_cancel_38 (fun H locs hW hS => ?_)
      have hW : Wd g (up2 M7 0 (857 + 4 * j4) (2)) H := hW
      have h := letE h
      generalize up2 M7 0 (857 + 4 * j4) (2) = M9 at hW h
      refine lv_aload_n hx hb dX10_cancel_41 rfl (lv_at hl 1 rfl) ?_
      refine rGet (k := 0) C hW (by decide) tm_BF rfl inX10 (by decide) fl_X10_10 rfl dX10_cancel_42 ?_
      refine lv_iconst (v := 0) hx hb dX10_cancel_45 (by decide) ?_
      obtain ⟨r10, M11, h12, h⟩ := bind2 h
      refine cBack C.2.2.2.2.2.2.2.2 (runV (As := [.int (0)]) (rest := []) C hW hS (c_X9_ordersIn l g M9 0 0 h05 _ _ h12) kV_X9_ordersIn ml_X10_185 (wB_lt (r := 0) h05 (by decide)) (tm_Works0 h05) rfl rfl rfl hl.1 rfl (Nat.le_of_ble_eq_true rfl) ⟨Nat.le_of_ble_eq_true rfl, Nat.le_of_ble_eq_true rfl⟩ ⟨Nat.zero_le _, Nat.zero_le _⟩ dX10_cancel_46) hS (fun v0 w0 H locs hp hW hS => ?_)
      obtain ⟨rfl, rfl⟩ := hp
      cases h
      exact rI C hr hlk dX10_cancel_49 hW hS ⟨rfl, rfl⟩
    · rw [if_neg c5] at h
      refine lv_bipush (v := -2) hx hb dX10_cancel_22 (by decide) ?_
      cases h
      exact rI C hr hlk dX10_cancel_24 hW hS ⟨rfl, rfl⟩
def f_X10_send (M : MM) (x : Int32) (y : Int32) : Option (Int32 × MM) := (bnd2 (f_X9_bellAt M 0 x) fun r1 M2 => optE r1 ((bnd2 (f_X9_orderAt M2 0 y) fun r5 M6 => optE r5 (some (-1, M6)) (fun j8 => some (-1, M6)))) (fun j4 => (bnd2 (f_X9_orderAt M2 0 y) fun r9 M10 => optE r9 (some (-1, M10)) (fun j12 => (bnd2 (f_X6_weight M10 0 (54 + 8 * j4)) fun r13 M14 => (if (M14 0 (857 + 4 * j12) : Int32) = 0 then (bnd2 (f_X7_isFitBy M14 0 j12 j4) fun r17 M18 => (if (r17 : Int32) = 0 then some (-2, M18) else (if vin (6) 7 then (if (r13 : Int32) ≤ (M18 (40 + 0) (6 : Int32).toNatClampNeg : Int32) then (bnd2 (f_X3_keep M18 0) fun r23 M24 => (letB (up2 M24 0 (60 + 8 * j4) (2)) fun M26 => (letB (up2 M26 0 (61 + 8 * j4) (y)) fun M27 => (letB (up2 M27 0 (857 + 4 * j12) (1)) fun M28 => some (r13, M28))))) else some (-2, M18)) else none))) else some (-2, M14)))))))
set_option maxHeartbeats 4000000 in
set_option maxRecDepth 100000 in
theorem c_X10_send (l : Launch) (g : GD) (M : MM) (x : Int32) (y : Int32) (r : Int32) (M2 : MM) (h : f_X10_send M x y = some (r, M2)) : Met l yX10_send (wm yX10_send cX10_send 6 (some .int)) (RM 4 86) (va_Pc [rf g (0), .int (x), .int (y)] (WDp g M)) (QQ g (fun v w0 => v = .int r ∧ M2 = w0)) 0 0 (AA g) := by
  refine mkM (by decide +kernel) (Nat.le_of_ble_eq_true rfl) ?_
  intro p e s m below meth c C hr hlk hW hS ls hl
  have hl : lv_has ls 6 [(0, rf g (0)), (1, .int (x)), (2, .int (y))] := hl
  have hx := C.1
  have hb := C.2.1
  have hts := C.2.2.2.2.1
  have h05 : (0 : Nat) < 5 := by decide
  unfold f_X10_send at h
  refine lv_aload_n hx hb dX10_send_0 rfl (lv_at hl 0 rfl) ?_
  refine rGet (k := 0) C hW (by decide) tm_BF rfl inX10 (by decide) fl_X10_10 rfl dX10_send_1 ?_
  refine lv_iload_n hx hb dX10_send_4 rfl (lv_at hl 1 rfl) ?_
  obtain ⟨r1, M2, h3, h⟩ := bind2 h
  refine cBack C.2.2.2.2.2.2.2.2 (runV (As := [.int (x)]) (rest := []) C hW hS (c_X9_bellAt l g M 0 x h05 _ _ h3) kV_X9_bellAt ml_X10_148 (wB_lt (r := 0) h05 (by decide)) (tm_Works0 h05) rfl rfl rfl hl.1 rfl (Nat.le_of_ble_eq_true rfl) ⟨Nat.le_of_ble_eq_true rfl, Nat.le_of_ble_eq_true rfl⟩ ⟨Nat.zero_le _, Nat.zero_le _⟩ dX10_send_5) hS (fun v0 w0 H locs hp hW hS => ?_)
  obtain ⟨rfl, rfl, br1⟩ := hp
  rcases r1 with _ | j4
  · have h := optN h
    refine rAstNn (lv' := [(3, .null), (0, rf g (0)), (1, .int (x)), (2, .int (y))]) C dX10_send_8 rfl hl (by decide) rfl (fun ls hl => ?_)
    refine lv_aload_n hx hb dX10_send_9 rfl (lv_at hl 1 rfl) ?_
    refine rGet (k := 0) C hW (by decide) tm_BF rfl inX10 (by decide) fl_X10_10 rfl dX10_send_10 ?_
    refine lv_iload_n hx hb dX10_send_13 rfl (lv_at hl 3 rfl) ?_
    obtain ⟨r5, M6, h7, h⟩ := bind2 h
    refine cBack C.2.2.2.2.2.2.2.2 (runV (As := [.int (y)]) (rest := []) C hW hS (c_X9_orderAt l g M2 0 y h05 _ _ h7) kV_X9_orderAt ml_X10_195 (wB_lt (r := 0) h05 (by decide)) (tm_Works0 h05) rfl rfl rfl hl.1 rfl (Nat.le_of_ble_eq_true rfl) ⟨Nat.le_of_ble_eq_true rfl, Nat.le_of_ble_eq_true rfl⟩ ⟨Nat.zero_le _, Nat.zero_le _⟩ dX10_send_14) hS (fun v0 w0 H locs hp hW hS => ?_)
    obtain ⟨rfl, rfl, br5⟩ := hp
    rcases r5 with _ | j8
    · have h := optN h
      refine rAstN (lv' := [(4, .null), (3, .null), (0, rf g (0)), (1, .int (x)), (2, .int (y))]) C dX10_send_17 hl (by decide) rfl (fun ls hl => ?_)
      refine rAldNn C dX10_send_19 rfl (lv_at hl 1 rfl) ?_
      refine lv_ifnullN (tgt := 28) hx hb dX10_send_20 (by decide) ?_
      refine lv_iconst (v := -1) hx hb dX10_send_28 (by decide) ?_
      cases h
      exact rI C hr hlk dX10_send_29 hW hS ⟨rfl, rfl⟩
    · have h := optS h
      have hj8 := br5 j8 rfl
      refine lv_astore (lv' := [(4, rf g (wB 0 + (236 + j8))), (3, .null), (0, rf g (0)), (1, .int (x)), (2, .int (y))]) hx hb dX10_send_17 hl (by decide) rfl (fun ls hl => ?_)
      refine rAldNn C dX10_send_19 rfl (lv_at hl 1 rfl) ?_
      refine lv_ifnullN (tgt := 28) hx hb dX10_send_20 (by decide) ?_
      refine lv_iconst (v := -1) hx hb dX10_send_28 (by decide) ?_
      cases h
      exact rI C hr hlk dX10_send_29 hW hS ⟨rfl, rfl⟩
  · have h := optS h
    have hj4 := br1 j4 rfl
    refine lv_astore_n (lv' := [(3, rf g (wB 0 + (36 + 2 * j4))), (0, rf g (0)), (1, .int (x)), (2, .int (y))]) hx hb dX10_send_8 rfl hl (by decide) rfl (fun ls hl => ?_)
    refine lv_aload_n hx hb dX10_send_9 rfl (lv_at hl 1 rfl) ?_
    refine rGet (k := 0) C hW (by decide) tm_BF rfl inX10 (by decide) fl_X10_10 rfl dX10_send_10 ?_
    refine lv_iload_n hx hb dX10_send_13 rfl (lv_at hl 3 rfl) ?_
    obtain ⟨r9, M10, h11, h⟩ := bind2 h
    refine cBack C.2.2.2.2.2.2.2.2 (runV (As := [.int (y)]) (rest := []) C hW hS (c_X9_orderAt l g M2 0 y h05 _ _ h11) kV_X9_orderAt ml_X10_195 (wB_lt (r := 0) h05 (by decide)) (tm_Works0 h05) rfl rfl rfl hl.1 rfl (Nat.le_of_ble_eq_true rfl) ⟨Nat.le_of_ble_eq_true rfl, Nat.le_of_ble_eq_true rfl⟩ ⟨Nat.zero_le _, Nat.zero_le _⟩ dX10_send_14) hS (fun v0 w0 H locs hp hW hS => ?_)
    obtain ⟨rfl, rfl, br9⟩ := hp
    rcases r9 with _ | j12
    · have h := optN h
      refine rAstN (lv' := [(4, .null), (3, rf g (wB 0 + (36 + 2 * j4))), (0, rf g (0)), (1, .int (x)), (2, .int (y))]) C dX10_send_17 hl (by decide) rfl (fun ls hl => ?_)
      refine lv_aload_n hx hb dX10_send_19 rfl (lv_at hl 1 rfl) ?_
      refine lv_ifnull hx hb dX10_send_20 ?_
      refine rAldN C dX10_send_23 (lv_at hl 0 rfl) ?_
      refine lv_ifnonnullN hx hb dX10_send_25 ?_
      refine lv_iconst (v := -1) hx hb dX10_send_28 (by decide) ?_
      cases h
      exact rI C hr hlk dX10_send_29 hW hS ⟨rfl, rfl⟩
    · have h := optS h
      have hj12 := br9 j12 rfl
      refine lv_astore (lv' := [(4, rf g (wB 0 + (236 + j12))), (3, rf g (wB 0 + (36 + 2 * j4))), (0, rf g (0)), (1, .int (x)), (2, .int (y))]) hx hb dX10_send_17 hl (by decide) rfl (fun ls hl => ?_)
      refine lv_aload_n hx hb dX10_send_19 rfl (lv_at hl 1 rfl) ?_
      refine lv_ifnull hx hb dX10_send_20 ?_
      refine lv_aload hx hb dX10_send_23 (lv_at hl 0 rfl) ?_
      refine lv_ifnonnull (tgt := 30) hx hb dX10_send_25 (by decide) ?_
      refine lv_aload_n hx hb dX10_send_30 rfl (lv_at hl 1 rfl) ?_
      refine rGetN (k := 0) C hW (wB_lt h05 (by have := hj4; omega)) (tm_Bell h05 hj4) rfl inX0 (by decide) fl_X10_157 rfl dX10_send_31 ?_
      obtain ⟨r13, M14, h15, h⟩ := bind2 h
      refine cBack C.2.2.2.2.2.2.2.2 (runV (As := []) (rest := []) C hW hS (c_X6_weight l g M10 (wB 0 + (37 + 2 * j4)) 0 (54 + 8 * j4) (MX_bell h05 hj4) _ _ h15) kV_X6_weight ml_X10_79 (MX_bell h05 hj4).lt (MX_bell h05 hj4).cel rfl rfl rfl hl.1 rfl (Nat.le_of_ble_eq_true rfl) ⟨Nat.le_of_ble_eq_true rfl, Nat.le_of_ble_eq_true rfl⟩ ⟨Nat.zero_le _, Nat.zero_le _⟩ dX10_send_34) hS (fun v0 w0 H locs hp hW hS => ?_)
      obtain ⟨rfl, rfl⟩ := hp
      refine lv_istore (lv' := [(5, .int (r13)), (4, rf g (wB 0 + (236 + j12))), (3, rf g (wB 0 + (36 + 2 * j4))), (0, rf g (0)), (1, .int (x)), (2, .int (y))]) hx hb dX10_send_37 hl (by decide) rfl (fun ls hl => ?_)
      refine lv_aload hx hb dX10_send_39 (lv_at hl 1 rfl) ?_
      refine rGetN (k := 3) C hW (wB_lt h05 (by have := hj12; omega)) (tm_Order h05 hj12) rfl inX7 (by decide) fl_X10_199 rfl dX10_send_41 ?_
      refine lv_if_ne (tgt := 71) hx hb dX10_send_44 (by decide) (fun c16 => ?_) (fun c16 => ?_)
      · rw [if_neg c16] at h
        refine lv_bipush (v := -2) hx hb dX10_send_71 (by decide) ?_
        cases h
        exact rI C hr hlk dX10_send_73 hW hS ⟨rfl, rfl⟩
      · rw [if_pos c16] at h
        refine lv_aload hx hb dX10_send_47 (lv_at hl 1 rfl) ?_
        refine lv_aload_n hx hb dX10_send_49 rfl (lv_at hl 2 rfl) ?_
        obtain ⟨r17, M18, h19, h⟩ := bind2 h
        refine cBack C.2.2.2.2.2.2.2.2 (runV (As := [rf g (wB 0 + (36 + 2 * j4))]) (rest := []) C hW hS (c_X7_isFitBy l g M14 0 j12 j4 h05 hj12 hj4 _ _ h19) kV_X7_isFitBy ml_X10_202 (wB_lt h05 (by have := hj12; omega)) (tm_Order h05 hj12) rfl rfl rfl hl.1 rfl (Nat.le_of_ble_eq_true rfl) ⟨Nat.le_of_ble_eq_true rfl, Nat.le_of_ble_eq_true rfl⟩ ⟨Nat.zero_le _, Nat.zero_le _⟩ dX10_send_50) hS (fun v0 w0 H locs hp hW hS => ?_)
        obtain ⟨rfl, rfl, zr17⟩ := hp
        refine lv_if_eq (tgt := 71) hx hb dX10_send_53 (by decide) (fun c20 => ?_) (fun c20 => ?_)
        · rw [if_pos c20] at h
          refine lv_bipush (v := -2) hx hb dX10_send_71 (by decide) ?_
          cases h
          exact rI C hr hlk dX10_send_73 hW hS ⟨rfl, rfl⟩
        · rw [if_neg c20] at h
          refine lv_iload hx hb dX10_send_56 (lv_at hl 0 rfl) ?_
          refine lv_aload_n hx hb dX10_send_58 rfl (lv_at hl 3 rfl) ?_
          refine rGet (k := 0) C hW (by decide) tm_BF rfl inX10 (by decide) fl_X10_10 rfl dX10_send_59 ?_
          refine rGetN (k := 5) C hW (wB_lt (r := 0) h05 (by decide)) (tm_Works0 h05) rfl inX9 (by decide) fl_X10_129 rfl dX10_send_62 ?_
          refine lv_bipush (v := 6) hx hb dX10_send_65 (by decide) ?_
          have s21 : vin (6) 7 := Classical.byContradiction fun q9 => by rw [if_neg q9] at h; cases h
          rw [if_pos s21] at h
          refine rIld C hW (wB_lt h05 (by decide)) (tm_settings h05) s21 dX10_send_67 ?_
          refine lv_icmp_le (tgt := 74) hx hb dX10_send_68 (by decide) (fun c22 => ?_) (fun c22 => ?_)
          · rw [if_pos c22] at h
            refine lv_aload_n hx hb dX10_send_74 rfl (lv_at hl 3 rfl) ?_
            refine rGet (k := 1) C hW (by decide) tm_BF rfl inX10 (by decide) fl_X10_19 rfl dX10_send_75 ?_
            refine lv_aload_n hx hb dX10_send_78 rfl (lv_at hl 3 rfl) ?_
            refine rGet (k := 0) C hW (by decide) tm_BF rfl inX10 (by decide) fl_X10_10 rfl dX10_send_79 ?_
            obtain ⟨r23, M24, h25, h⟩ := bind2 h
            refine cBackV C.2.2.2.2.2.2.2.2 (runV (As := [rf g (wB 0)]) (rest := []) C hW hS (c_X3_keep l g M18 0 h05 _ _ h25) kV_X3_keep ml_X10_65 (by decide) tm_Hist rfl rfl rfl hl.1 rfl (Nat.le_of_ble_eq_true rfl) ⟨Nat.le_of_ble_eq_true rfl, Nat.le_of_ble_eq_true rfl⟩ ⟨Nat.zero_le _, Nat.zero_le _⟩ dX10_send_82) hS (fun v0 H locs hp hW hS => ?_)
            subst hp
            refine lv_aload_n hx hb dX10_send_85 rfl (lv_at hl 2 rfl) ?_
            refine lv_iconst (v := 2) hx hb dX10_send_86 (by decide) ?_
            refine rPutN (k := 5) C hW hS (wB_lt h05 (by have := hj4; omega)) (tm_Bell h05 hj4) rfl inX0 tyX0_ok nmX0 (by decide) fl_X10_152 rfl (by decide +kernel) (Nat.le_of_ble_eq_true rfl) (upd_Bell_state h05 hj4 _) dX10_send_87 (fun H locs hW hS => ?_)
            have hW : Wd g (up2 M24 0 (60 + 8 * j4) (2)) H := hW
            have h := letE h
            generalize up2 M24 0 (60 + 8 * j4) (2) = M26 at hW h
            refine lv_aload_n hx hb dX10_send_90 rfl (lv_at hl 2 rfl) ?_
            refine lv_iload_n hx hb dX10_send_91 rfl (lv_at hl 5 rfl) ?_
            refine rPutN (k := 6) C hW hS (wB_lt h05 (by have := hj4; omega)) (tm_Bell h05 hj4) rfl inX0 tyX0_ok nmX0 (by decide) fl_X10_182 rfl (by decide +kernel) (Nat.le_of_ble_eq_true rfl) (upd_Bell_order h05 hj4 _) dX10_send_92 (fun H locs hW hS => ?_)
            have hW : Wd g (up2 M26 0 (61 + 8 * j4) (y)) H := hW
            have h := letE h
            generalize up2 M26 0 (61 + 8 * j4) (y) = M27 at hW h
            refine lv_aload hx hb dX10_send_95 (lv_at hl 1 rfl) ?_
            refine lv_iconst (v := 1) hx hb dX10_send_97 (by decide) ?_
            refine rPutN (k := 3) C hW hS (wB_lt h05 (by have := hj12; omega)) (tm_Order h05 hj12) rfl inX7 tyX7_ok nmX7 (by decide) fl_X10_199 rfl (by decide +kernel) (Nat.le_of_ble_eq_true rfl) (upd_Order_state h05 hj12 _) dX10_send_98 (fun H locs hW hS => ?_)
            have hW : Wd g (up2 M27 0 (857 + 4 * j12) (1)) H := hW
            have h := letE h
            generalize up2 M27 0 (857 + 4 * j12) (1) = M28 at hW h
            refine lv_iload hx hb dX10_send_101 (lv_at hl 0 rfl) ?_
            cases h
            exact rI C hr hlk dX10_send_103 hW hS ⟨rfl, rfl⟩
          · rw [if_neg c22] at h
            refine lv_bipush (v := -2) hx hb dX10_send_71 (by decide) ?_
            cases h
            exact rI C hr hlk dX10_send_73 hW hS ⟨rfl, rfl⟩
def f_X10_orderOf (M : MM) (x : Int32) (y : Int32) : Option (Int32 × MM) := (bnd2 (f_X9_orderAt M 0 x) fun r1 M2 => optE r1 (some (-1, M2)) (fun j4 => (if (y : Int32) = 0 then some (M2 0 (854 + 4 * j4), M2) else (if (y : Int32) = 1 then some (M2 0 (855 + 4 * j4), M2) else (if (y : Int32) = 2 then some (M2 0 (856 + 4 * j4), M2) else (if (y : Int32) = 3 then some (M2 0 (857 + 4 * j4), M2) else (if (y : Int32) = 4 then (bnd2 (f_X9_lowestBellFor M2 0 j4) fun r10 M11 => some (r10, M11)) else (if (y : Int32) = 5 then (bnd2 (f_X9_bellsFor M2 0 j4) fun r14 M15 => some (r14, M15)) else some (-1, M2)))))))))
set_option maxHeartbeats 4000000 in
set_option maxRecDepth 100000 in
theorem c_X10_orderOf (l : Launch) (g : GD) (M : MM) (x : Int32) (y : Int32) (r : Int32) (M2 : MM) (h : f_X10_orderOf M x y = some (r, M2)) : Met l yX10_orderOf (wm yX10_orderOf cX10_orderOf 4 (some .int)) (RM 4 105) (va_Pc [rf g (0), .int (x), .int (y)] (WDp g M)) (QQ g (fun v w0 => v = .int r ∧ M2 = w0)) 0 0 (AA g) := by
  refine mkM (by decide +kernel) (Nat.le_of_ble_eq_true rfl) ?_
  intro p e s m below meth c C hr hlk hW hS ls hl
  have hl : lv_has ls 4 [(0, rf g (0)), (1, .int (x)), (2, .int (y))] := hl
  have hx := C.1
  have hb := C.2.1
  have hts := C.2.2.2.2.1
  have h05 : (0 : Nat) < 5 := by decide
  unfold f_X10_orderOf at h
  refine lv_aload_n hx hb dX10_orderOf_0 rfl (lv_at hl 0 rfl) ?_
  refine rGet (k := 0) C hW (by decide) tm_BF rfl inX10 (by decide) fl_X10_10 rfl dX10_orderOf_1 ?_
  refine lv_iload_n hx hb dX10_orderOf_4 rfl (lv_at hl 1 rfl) ?_
  obtain ⟨r1, M2, h3, h⟩ := bind2 h
  refine cBack C.2.2.2.2.2.2.2.2 (runV (As := [.int (x)]) (rest := []) C hW hS (c_X9_orderAt l g M 0 x h05 _ _ h3) kV_X9_orderAt ml_X10_195 (wB_lt (r := 0) h05 (by decide)) (tm_Works0 h05) rfl rfl rfl hl.1 rfl (Nat.le_of_ble_eq_true rfl) ⟨Nat.le_of_ble_eq_true rfl, Nat.le_of_ble_eq_true rfl⟩ ⟨Nat.zero_le _, Nat.zero_le _⟩ dX10_orderOf_5) hS (fun v0 w0 H locs hp hW hS => ?_)
  obtain ⟨rfl, rfl, br1⟩ := hp
  rcases r1 with _ | j4
  · have h := optN h
    refine rAstNn (lv' := [(3, .null), (0, rf g (0)), (1, .int (x)), (2, .int (y))]) C dX10_orderOf_8 rfl hl (by decide) rfl (fun ls hl => ?_)
    refine rAldNn C dX10_orderOf_9 rfl (lv_at hl 0 rfl) ?_
    refine lv_ifnonnullN hx hb dX10_orderOf_10 ?_
    refine lv_iconst (v := -1) hx hb dX10_orderOf_13 (by decide) ?_
    cases h
    exact rI C hr hlk dX10_orderOf_14 hW hS ⟨rfl, rfl⟩
  · have h := optS h
    have hj4 := br1 j4 rfl
    refine lv_astore_n (lv' := [(3, rf g (wB 0 + (236 + j4))), (0, rf g (0)), (1, .int (x)), (2, .int (y))]) hx hb dX10_orderOf_8 rfl hl (by decide) rfl (fun ls hl => ?_)
    refine lv_aload_n hx hb dX10_orderOf_9 rfl (lv_at hl 0 rfl) ?_
    refine lv_ifnonnull (tgt := 15) hx hb dX10_orderOf_10 (by decide) ?_
    refine lv_iload_n hx hb dX10_orderOf_15 rfl (lv_at hl 3 rfl) ?_
    by_cases c5 : (y : Int32) = 0
    · rw [if_pos c5] at h
      refine lv_tableIn (off := 40) (tgt := 56) hx hb dX10_orderOf_16 (by rw [c5]; decide) (by rw [c5]; decide) (by rw [c5]; rfl) (by decide) ?_
      refine lv_aload_n hx hb dX10_orderOf_56 rfl (lv_at hl 0 rfl) ?_
      refine rGetN (k := 0) C hW (wB_lt h05 (by have := hj4; omega)) (tm_Order h05 hj4) rfl inX7 (by decide) fl_X10_206 rfl dX10_orderOf_57 ?_
      cases h
      exact rI C hr hlk dX10_orderOf_60 hW hS ⟨rfl, rfl⟩
    rw [if_neg c5] at h
    by_cases c6 : (y : Int32) = 1
    · rw [if_pos c6] at h
      refine lv_tableIn (off := 45) (tgt := 61) hx hb dX10_orderOf_16 (by rw [c6]; decide) (by rw [c6]; decide) (by rw [c6]; rfl) (by decide) ?_
      refine lv_aload_n hx hb dX10_orderOf_61 rfl (lv_at hl 0 rfl) ?_
      refine rGetN (k := 1) C hW (wB_lt h05 (by have := hj4; omega)) (tm_Order h05 hj4) rfl inX7 (by decide) fl_X10_207 rfl dX10_orderOf_62 ?_
      cases h
      exact rI C hr hlk dX10_orderOf_65 hW hS ⟨rfl, rfl⟩
    rw [if_neg c6] at h
    by_cases c7 : (y : Int32) = 2
    · rw [if_pos c7] at h
      refine lv_tableIn (off := 50) (tgt := 66) hx hb dX10_orderOf_16 (by rw [c7]; decide) (by rw [c7]; decide) (by rw [c7]; rfl) (by decide) ?_
      refine lv_aload_n hx hb dX10_orderOf_66 rfl (lv_at hl 0 rfl) ?_
      refine rGetN (k := 2) C hW (wB_lt h05 (by have := hj4; omega)) (tm_Order h05 hj4) rfl inX7 (by decide) fl_X10_208 rfl dX10_orderOf_67 ?_
      cases h
      exact rI C hr hlk dX10_orderOf_70 hW hS ⟨rfl, rfl⟩
    rw [if_neg c7] at h
    by_cases c8 : (y : Int32) = 3
    · rw [if_pos c8] at h
      refine lv_tableIn (off := 55) (tgt := 71) hx hb dX10_orderOf_16 (by rw [c8]; decide) (by rw [c8]; decide) (by rw [c8]; rfl) (by decide) ?_
      refine lv_aload_n hx hb dX10_orderOf_71 rfl (lv_at hl 0 rfl) ?_
      refine rGetN (k := 3) C hW (wB_lt h05 (by have := hj4; omega)) (tm_Order h05 hj4) rfl inX7 (by decide) fl_X10_199 rfl dX10_orderOf_72 ?_
      cases h
      exact rI C hr hlk dX10_orderOf_75 hW hS ⟨rfl, rfl⟩
    rw [if_neg c8] at h
    by_cases c9 : (y : Int32) = 4
    · rw [if_pos c9] at h
      refine lv_tableIn (off := 60) (tgt := 76) hx hb dX10_orderOf_16 (by rw [c9]; decide) (by rw [c9]; decide) (by rw [c9]; rfl) (by decide) ?_
      refine lv_aload_n hx hb dX10_orderOf_76 rfl (lv_at hl 1 rfl) ?_
      refine rGet (k := 0) C hW (by decide) tm_BF rfl inX10 (by decide) fl_X10_10 rfl dX10_orderOf_77 ?_
      refine lv_aload_n hx hb dX10_orderOf_80 rfl (lv_at hl 0 rfl) ?_
      obtain ⟨r10, M11, h12, h⟩ := bind2 h
      refine cBack C.2.2.2.2.2.2.2.2 (runV (As := [rf g (wB 0 + (236 + j4))]) (rest := []) C hW hS (c_X9_lowestBellFor l g M2 0 j4 h05 hj4 _ _ h12) kV_X9_lowestBellFor ml_X10_211 (wB_lt (r := 0) h05 (by decide)) (tm_Works0 h05) rfl rfl rfl hl.1 rfl (Nat.le_of_ble_eq_true rfl) ⟨Nat.le_of_ble_eq_true rfl, Nat.le_of_ble_eq_true rfl⟩ ⟨Nat.zero_le _, Nat.zero_le _⟩ dX10_orderOf_81) hS (fun v0 w0 H locs hp hW hS => ?_)
      obtain ⟨rfl, rfl⟩ := hp
      cases h
      exact rI C hr hlk dX10_orderOf_84 hW hS ⟨rfl, rfl⟩
    rw [if_neg c9] at h
    by_cases c13 : (y : Int32) = 5
    · rw [if_pos c13] at h
      refine lv_tableIn (off := 69) (tgt := 85) hx hb dX10_orderOf_16 (by rw [c13]; decide) (by rw [c13]; decide) (by rw [c13]; rfl) (by decide) ?_
      refine lv_aload_n hx hb dX10_orderOf_85 rfl (lv_at hl 1 rfl) ?_
      refine rGet (k := 0) C hW (by decide) tm_BF rfl inX10 (by decide) fl_X10_10 rfl dX10_orderOf_86 ?_
      refine lv_aload_n hx hb dX10_orderOf_89 rfl (lv_at hl 0 rfl) ?_
      obtain ⟨r14, M15, h16, h⟩ := bind2 h
      refine cBack C.2.2.2.2.2.2.2.2 (runV (As := [rf g (wB 0 + (236 + j4))]) (rest := []) C hW hS (c_X9_bellsFor l g M2 0 j4 h05 hj4 _ _ h16) kV_X9_bellsFor ml_X10_215 (wB_lt (r := 0) h05 (by decide)) (tm_Works0 h05) rfl rfl rfl hl.1 rfl (Nat.le_of_ble_eq_true rfl) ⟨Nat.le_of_ble_eq_true rfl, Nat.le_of_ble_eq_true rfl⟩ ⟨Nat.zero_le _, Nat.zero_le _⟩ dX10_orderOf_90) hS (fun v0 w0 H locs hp hW hS => ?_)
      obtain ⟨rfl, rfl⟩ := hp
      cases h
      exact rI C hr hlk dX10_orderOf_93 hW hS ⟨rfl, rfl⟩
    rw [if_neg c13] at h
    refine lv_tableOut (tgt := 94) hx hb dX10_orderOf_16 (by have nc5 := lv_neT (a := 0) c5 rfl; have nc6 := lv_neT (a := 1) c6 rfl; have nc7 := lv_neT (a := 2) c7 rfl; have nc8 := lv_neT (a := 3) c8 rfl; have nc9 := lv_neT (a := 4) c9 rfl; have nc13 := lv_neT (a := 5) c13 rfl; omega) (by decide) ?_
    refine lv_iconst (v := -1) hx hb dX10_orderOf_94 (by decide) ?_
    cases h
    exact rI C hr hlk dX10_orderOf_95 hW hS ⟨rfl, rfl⟩
def f_X10_tuneFor (M : MM) (x : Int32) (y : Int32) : Option (Int32 × MM) := (bnd2 (f_X9_bellAt M 0 x) fun r1 M2 => optE r1 ((bnd2 (f_X9_orderAt M2 0 y) fun r5 M6 => optE r5 (some (-1, M6)) (fun j8 => some (-1, M6)))) (fun j4 => (bnd2 (f_X9_orderAt M2 0 y) fun r9 M10 => optE r9 (some (-1, M10)) (fun j12 => (if (M10 0 (60 + 8 * j4) : Int32) = 0 then (bnd2 (f_X7_isFitBy M10 0 j12 j4) fun r14 M15 => (if (r14 : Int32) = 0 then (bnd2 (f_X9_fewestPoundsToFit M15 0 j4 j12) fun r18 M19 => some (r18, M19)) else some (0, M15))) else some (-2, M10))))))
set_option maxHeartbeats 4000000 in
set_option maxRecDepth 100000 in
theorem c_X10_tuneFor (l : Launch) (g : GD) (M : MM) (x : Int32) (y : Int32) (r : Int32) (M2 : MM) (h : f_X10_tuneFor M x y = some (r, M2)) : Met l yX10_tuneFor (wm yX10_tuneFor cX10_tuneFor 5 (some .int)) (RM 3 86) (va_Pc [rf g (0), .int (x), .int (y)] (WDp g M)) (QQ g (fun v w0 => v = .int r ∧ M2 = w0)) 0 0 (AA g) := by
  refine mkM (by decide +kernel) (Nat.le_of_ble_eq_true rfl) ?_
  intro p e s m below meth c C hr hlk hW hS ls hl
  have hl : lv_has ls 5 [(0, rf g (0)), (1, .int (x)), (2, .int (y))] := hl
  have hx := C.1
  have hb := C.2.1
  have hts := C.2.2.2.2.1
  have h05 : (0 : Nat) < 5 := by decide
  unfold f_X10_tuneFor at h
  refine lv_aload_n hx hb dX10_tuneFor_0 rfl (lv_at hl 0 rfl) ?_
  refine rGet (k := 0) C hW (by decide) tm_BF rfl inX10 (by decide) fl_X10_10 rfl dX10_tuneFor_1 ?_
  refine lv_iload_n hx hb dX10_tuneFor_4 rfl (lv_at hl 1 rfl) ?_
  obtain ⟨r1, M2, h3, h⟩ := bind2 h
  refine cBack C.2.2.2.2.2.2.2.2 (runV (As := [.int (x)]) (rest := []) C hW hS (c_X9_bellAt l g M 0 x h05 _ _ h3) kV_X9_bellAt ml_X10_148 (wB_lt (r := 0) h05 (by decide)) (tm_Works0 h05) rfl rfl rfl hl.1 rfl (Nat.le_of_ble_eq_true rfl) ⟨Nat.le_of_ble_eq_true rfl, Nat.le_of_ble_eq_true rfl⟩ ⟨Nat.zero_le _, Nat.zero_le _⟩ dX10_tuneFor_5) hS (fun v0 w0 H locs hp hW hS => ?_)
  obtain ⟨rfl, rfl, br1⟩ := hp
  rcases r1 with _ | j4
  · have h := optN h
    refine rAstNn (lv' := [(3, .null), (0, rf g (0)), (1, .int (x)), (2, .int (y))]) C dX10_tuneFor_8 rfl hl (by decide) rfl (fun ls hl => ?_)
    refine lv_aload_n hx hb dX10_tuneFor_9 rfl (lv_at hl 1 rfl) ?_
    refine rGet (k := 0) C hW (by decide) tm_BF rfl inX10 (by decide) fl_X10_10 rfl dX10_tuneFor_10 ?_
    refine lv_iload_n hx hb dX10_tuneFor_13 rfl (lv_at hl 3 rfl) ?_
    obtain ⟨r5, M6, h7, h⟩ := bind2 h
    refine cBack C.2.2.2.2.2.2.2.2 (runV (As := [.int (y)]) (rest := []) C hW hS (c_X9_orderAt l g M2 0 y h05 _ _ h7) kV_X9_orderAt ml_X10_195 (wB_lt (r := 0) h05 (by decide)) (tm_Works0 h05) rfl rfl rfl hl.1 rfl (Nat.le_of_ble_eq_true rfl) ⟨Nat.le_of_ble_eq_true rfl, Nat.le_of_ble_eq_true rfl⟩ ⟨Nat.zero_le _, Nat.zero_le _⟩ dX10_tuneFor_14) hS (fun v0 w0 H locs hp hW hS => ?_)
    obtain ⟨rfl, rfl, br5⟩ := hp
    rcases r5 with _ | j8
    · have h := optN h
      refine rAstN (lv' := [(4, .null), (3, .null), (0, rf g (0)), (1, .int (x)), (2, .int (y))]) C dX10_tuneFor_17 hl (by decide) rfl (fun ls hl => ?_)
      refine rAldNn C dX10_tuneFor_19 rfl (lv_at hl 1 rfl) ?_
      refine lv_ifnullN (tgt := 28) hx hb dX10_tuneFor_20 (by decide) ?_
      refine lv_iconst (v := -1) hx hb dX10_tuneFor_28 (by decide) ?_
      cases h
      exact rI C hr hlk dX10_tuneFor_29 hW hS ⟨rfl, rfl⟩
    · have h := optS h
      have hj8 := br5 j8 rfl
      refine lv_astore (lv' := [(4, rf g (wB 0 + (236 + j8))), (3, .null), (0, rf g (0)), (1, .int (x)), (2, .int (y))]) hx hb dX10_tuneFor_17 hl (by decide) rfl (fun ls hl => ?_)
      refine rAldNn C dX10_tuneFor_19 rfl (lv_at hl 1 rfl) ?_
      refine lv_ifnullN (tgt := 28) hx hb dX10_tuneFor_20 (by decide) ?_
      refine lv_iconst (v := -1) hx hb dX10_tuneFor_28 (by decide) ?_
      cases h
      exact rI C hr hlk dX10_tuneFor_29 hW hS ⟨rfl, rfl⟩
  · have h := optS h
    have hj4 := br1 j4 rfl
    refine lv_astore_n (lv' := [(3, rf g (wB 0 + (36 + 2 * j4))), (0, rf g (0)), (1, .int (x)), (2, .int (y))]) hx hb dX10_tuneFor_8 rfl hl (by decide) rfl (fun ls hl => ?_)
    refine lv_aload_n hx hb dX10_tuneFor_9 rfl (lv_at hl 1 rfl) ?_
    refine rGet (k := 0) C hW (by decide) tm_BF rfl inX10 (by decide) fl_X10_10 rfl dX10_tuneFor_10 ?_
    refine lv_iload_n hx hb dX10_tuneFor_13 rfl (lv_at hl 3 rfl) ?_
    obtain ⟨r9, M10, h11, h⟩ := bind2 h
    refine cBack C.2.2.2.2.2.2.2.2 (runV (As := [.int (y)]) (rest := []) C hW hS (c_X9_orderAt l g M2 0 y h05 _ _ h11) kV_X9_orderAt ml_X10_195 (wB_lt (r := 0) h05 (by decide)) (tm_Works0 h05) rfl rfl rfl hl.1 rfl (Nat.le_of_ble_eq_true rfl) ⟨Nat.le_of_ble_eq_true rfl, Nat.le_of_ble_eq_true rfl⟩ ⟨Nat.zero_le _, Nat.zero_le _⟩ dX10_tuneFor_14) hS (fun v0 w0 H locs hp hW hS => ?_)
    obtain ⟨rfl, rfl, br9⟩ := hp
    rcases r9 with _ | j12
    · have h := optN h
      refine rAstN (lv' := [(4, .null), (3, rf g (wB 0 + (36 + 2 * j4))), (0, rf g (0)), (1, .int (x)), (2, .int (y))]) C dX10_tuneFor_17 hl (by decide) rfl (fun ls hl => ?_)
      refine lv_aload_n hx hb dX10_tuneFor_19 rfl (lv_at hl 1 rfl) ?_
      refine lv_ifnull hx hb dX10_tuneFor_20 ?_
      refine rAldN C dX10_tuneFor_23 (lv_at hl 0 rfl) ?_
      refine lv_ifnonnullN hx hb dX10_tuneFor_25 ?_
      refine lv_iconst (v := -1) hx hb dX10_tuneFor_28 (by decide) ?_
      cases h
      exact rI C hr hlk dX10_tuneFor_29 hW hS ⟨rfl, rfl⟩
    · have h := optS h
      have hj12 := br9 j12 rfl
      refine lv_astore (lv' := [(4, rf g (wB 0 + (236 + j12))), (3, rf g (wB 0 + (36 + 2 * j4))), (0, rf g (0)), (1, .int (x)), (2, .int (y))]) hx hb dX10_tuneFor_17 hl (by decide) rfl (fun ls hl => ?_)
      refine lv_aload_n hx hb dX10_tuneFor_19 rfl (lv_at hl 1 rfl) ?_
      refine lv_ifnull hx hb dX10_tuneFor_20 ?_
      refine lv_aload hx hb dX10_tuneFor_23 (lv_at hl 0 rfl) ?_
      refine lv_ifnonnull (tgt := 30) hx hb dX10_tuneFor_25 (by decide) ?_
      refine lv_aload_n hx hb dX10_tuneFor_30 rfl (lv_at hl 1 rfl) ?_
      refine rGetN (k := 5) C hW (wB_lt h05 (by have := hj4; omega)) (tm_Bell h05 hj4) rfl inX0 (by decide) fl_X10_152 rfl dX10_tuneFor_31 ?_
      refine lv_if_eq (tgt := 40) hx hb dX10_tuneFor_34 (by decide) (fun c13 => ?_) (fun c13 => ?_)
      · rw [if_pos c13] at h
        refine lv_aload hx hb dX10_tuneFor_40 (lv_at hl 0 rfl) ?_
        refine lv_aload_n hx hb dX10_tuneFor_42 rfl (lv_at hl 1 rfl) ?_
        obtain ⟨r14, M15, h16, h⟩ := bind2 h
        refine cBack C.2.2.2.2.2.2.2.2 (runV (As := [rf g (wB 0 + (36 + 2 * j4))]) (rest := []) C hW hS (c_X7_isFitBy l g M10 0 j12 j4 h05 hj12 hj4 _ _ h16) kV_X7_isFitBy ml_X10_202 (wB_lt h05 (by have := hj12; omega)) (tm_Order h05 hj12) rfl rfl rfl hl.1 rfl (Nat.le_of_ble_eq_true rfl) ⟨Nat.le_of_ble_eq_true rfl, Nat.le_of_ble_eq_true rfl⟩ ⟨Nat.zero_le _, Nat.zero_le _⟩ dX10_tuneFor_43) hS (fun v0 w0 H locs hp hW hS => ?_)
        obtain ⟨rfl, rfl, zr14⟩ := hp
        refine lv_if_eq (tgt := 51) hx hb dX10_tuneFor_46 (by decide) (fun c17 => ?_) (fun c17 => ?_)
        · rw [if_pos c17] at h
          refine lv_aload_n hx hb dX10_tuneFor_51 rfl (lv_at hl 2 rfl) ?_
          refine rGet (k := 0) C hW (by decide) tm_BF rfl inX10 (by decide) fl_X10_10 rfl dX10_tuneFor_52 ?_
          refine lv_aload_n hx hb dX10_tuneFor_55 rfl (lv_at hl 1 rfl) ?_
          refine lv_aload hx hb dX10_tuneFor_56 (lv_at hl 0 rfl) ?_
          obtain ⟨r18, M19, h20, h⟩ := bind2 h
          refine cBack C.2.2.2.2.2.2.2.2 (runV (As := [rf g (wB 0 + (36 + 2 * j4)), rf g (wB 0 + (236 + j12))]) (rest := []) C hW hS (c_X9_fewestPoundsToFit l g M15 0 j4 j12 h05 hj4 hj12 _ _ h20) kV_X9_fewestPoundsToFit ml_X10_218 (wB_lt (r := 0) h05 (by decide)) (tm_Works0 h05) rfl rfl rfl hl.1 rfl (Nat.le_of_ble_eq_true rfl) ⟨Nat.le_of_ble_eq_true rfl, Nat.le_of_ble_eq_true rfl⟩ ⟨Nat.zero_le _, Nat.zero_le _⟩ dX10_tuneFor_58) hS (fun v0 w0 H locs hp hW hS => ?_)
          obtain ⟨rfl, rfl⟩ := hp
          cases h
          exact rI C hr hlk dX10_tuneFor_61 hW hS ⟨rfl, rfl⟩
        · rw [if_neg c17] at h
          refine lv_iconst (v := 0) hx hb dX10_tuneFor_49 (by decide) ?_
          cases h
          exact rI C hr hlk dX10_tuneFor_50 hW hS ⟨rfl, rfl⟩
      · rw [if_neg c13] at h
        refine lv_bipush (v := -2) hx hb dX10_tuneFor_37 (by decide) ?_
        cases h
        exact rI C hr hlk dX10_tuneFor_39 hW hS ⟨rfl, rfl⟩
def f_X10_pourFor (M : MM) (x : Int32) : Option (Int32 × MM) := (bnd2 (f_X9_orderAt M 0 x) fun r1 M2 => optE r1 (some (-1, M2)) (fun j4 => (bnd2 (f_X9_heaviestBellFor M2 0 j4) fun r5 M6 => some (r5, M6))))
set_option maxHeartbeats 4000000 in
set_option maxRecDepth 100000 in
theorem c_X10_pourFor (l : Launch) (g : GD) (M : MM) (x : Int32) (r : Int32) (M2 : MM) (h : f_X10_pourFor M x = some (r, M2)) : Met l yX10_pourFor (wm yX10_pourFor cX10_pourFor 3 (some .int)) (RM 4 89) (va_Pc [rf g (0), .int (x)] (WDp g M)) (QQ g (fun v w0 => v = .int r ∧ M2 = w0)) 0 0 (AA g) := by
  refine mkM (by decide +kernel) (Nat.le_of_ble_eq_true rfl) ?_
  intro p e s m below meth c C hr hlk hW hS ls hl
  have hl : lv_has ls 3 [(0, rf g (0)), (1, .int (x))] := hl
  have hx := C.1
  have hb := C.2.1
  have hts := C.2.2.2.2.1
  have h05 : (0 : Nat) < 5 := by decide
  unfold f_X10_pourFor at h
  refine lv_aload_n hx hb dX10_pourFor_0 rfl (lv_at hl 0 rfl) ?_
  refine rGet (k := 0) C hW (by decide) tm_BF rfl inX10 (by decide) fl_X10_10 rfl dX10_pourFor_1 ?_
  refine lv_iload_n hx hb dX10_pourFor_4 rfl (lv_at hl 1 rfl) ?_
  obtain ⟨r1, M2, h3, h⟩ := bind2 h
  refine cBack C.2.2.2.2.2.2.2.2 (runV (As := [.int (x)]) (rest := []) C hW hS (c_X9_orderAt l g M 0 x h05 _ _ h3) kV_X9_orderAt ml_X10_195 (wB_lt (r := 0) h05 (by decide)) (tm_Works0 h05) rfl rfl rfl hl.1 rfl (Nat.le_of_ble_eq_true rfl) ⟨Nat.le_of_ble_eq_true rfl, Nat.le_of_ble_eq_true rfl⟩ ⟨Nat.zero_le _, Nat.zero_le _⟩ dX10_pourFor_5) hS (fun v0 w0 H locs hp hW hS => ?_)
  obtain ⟨rfl, rfl, br1⟩ := hp
  rcases r1 with _ | j4
  · have h := optN h
    refine rAstNn (lv' := [(2, .null), (0, rf g (0)), (1, .int (x))]) C dX10_pourFor_8 rfl hl (by decide) rfl (fun ls hl => ?_)
    refine rAldNn C dX10_pourFor_9 rfl (lv_at hl 0 rfl) ?_
    refine lv_ifnonnullN hx hb dX10_pourFor_10 ?_
    refine lv_iconst (v := -1) hx hb dX10_pourFor_13 (by decide) ?_
    cases h
    exact rI C hr hlk dX10_pourFor_14 hW hS ⟨rfl, rfl⟩
  · have h := optS h
    have hj4 := br1 j4 rfl
    refine lv_astore_n (lv' := [(2, rf g (wB 0 + (236 + j4))), (0, rf g (0)), (1, .int (x))]) hx hb dX10_pourFor_8 rfl hl (by decide) rfl (fun ls hl => ?_)
    refine lv_aload_n hx hb dX10_pourFor_9 rfl (lv_at hl 0 rfl) ?_
    refine lv_ifnonnull (tgt := 15) hx hb dX10_pourFor_10 (by decide) ?_
    refine lv_aload_n hx hb dX10_pourFor_15 rfl (lv_at hl 1 rfl) ?_
    refine rGet (k := 0) C hW (by decide) tm_BF rfl inX10 (by decide) fl_X10_10 rfl dX10_pourFor_16 ?_
    refine lv_aload_n hx hb dX10_pourFor_19 rfl (lv_at hl 0 rfl) ?_
    obtain ⟨r5, M6, h7, h⟩ := bind2 h
    refine cBack C.2.2.2.2.2.2.2.2 (runV (As := [rf g (wB 0 + (236 + j4))]) (rest := []) C hW hS (c_X9_heaviestBellFor l g M2 0 j4 h05 hj4 _ _ h7) kV_X9_heaviestBellFor ml_X10_222 (wB_lt (r := 0) h05 (by decide)) (tm_Works0 h05) rfl rfl rfl hl.1 rfl (Nat.le_of_ble_eq_true rfl) ⟨Nat.le_of_ble_eq_true rfl, Nat.le_of_ble_eq_true rfl⟩ ⟨Nat.zero_le _, Nat.zero_le _⟩ dX10_pourFor_20) hS (fun v0 w0 H locs hp hW hS => ?_)
    obtain ⟨rfl, rfl⟩ := hp
    cases h
    exact rI C hr hlk dX10_pourFor_23 hW hS ⟨rfl, rfl⟩
def f_X10_account (M : MM) (x : Int32) (y : Int32) : Option (Int32 × MM) := (bnd2 (f_X10_isMetal M x) fun r1 M2 => (if (r1 : Int32) = 0 then some (-1, M2) else (if (y : Int32) = 0 then (bnd2 (f_X6_of M2 0 2 x) fun r6 M7 => some (r6, M7)) else (if (y : Int32) = 1 then (bnd2 (f_X6_of M2 0 0 x) fun r10 M11 => some (r10, M11)) else (if (y : Int32) = 2 then (bnd2 (f_X6_of M2 0 6 x) fun r14 M15 => some (r14, M15)) else (if (y : Int32) = 3 then (bnd2 (f_X2_of M2 0 x) fun r18 M19 => some (r18, M19)) else (if (y : Int32) = 4 then (bnd2 (f_X9_inBells M2 0 x 0) fun r22 M23 => (bnd2 (f_X9_inBells M23 0 x 1) fun r25 M26 => some ((r22) + (r25), M26))) else (if (y : Int32) = 5 then (bnd2 (f_X9_inBells M2 0 x 2) fun r29 M30 => some (r29, M30)) else (if (y : Int32) = 6 then (bnd2 (f_X6_of M2 0 4 x) fun r33 M34 => some (r33, M34)) else some (-1, M2))))))))))
set_option maxHeartbeats 4000000 in
set_option maxRecDepth 100000 in
theorem c_X10_account (l : Launch) (g : GD) (M : MM) (x : Int32) (y : Int32) (r : Int32) (M2 : MM) (h : f_X10_account M x y = some (r, M2)) : Met l yX10_account (wm yX10_account cX10_account 3 (some .int)) (RM 2 45) (va_Pc [rf g (0), .int (x), .int (y)] (WDp g M)) (QQ g (fun v w0 => v = .int r ∧ M2 = w0)) 0 0 (AA g) := by
  refine mkM (by decide +kernel) (Nat.le_of_ble_eq_true rfl) ?_
  intro p e s m below meth c C hr hlk hW hS ls hl
  have hl : lv_has ls 3 [(0, rf g (0)), (1, .int (x)), (2, .int (y))] := hl
  have hx := C.1
  have hb := C.2.1
  have hts := C.2.2.2.2.1
  have h05 : (0 : Nat) < 5 := by decide
  unfold f_X10_account at h
  refine lv_iload_n hx hb dX10_account_0 rfl (lv_at hl 1 rfl) ?_
  obtain ⟨r1, M2, h3, h⟩ := bind2 h
  refine cBack C.2.2.2.2.2.2.2.2 (runS (As := [.int (x)]) (rest := []) C hW hS (c_X10_isMetal l g M x _ _ h3) kS_X10_isMetal ml_X10_45 rfl hl.1 rfl (Nat.le_of_ble_eq_true rfl) ⟨Nat.le_of_ble_eq_true rfl, Nat.le_of_ble_eq_true rfl⟩ ⟨Nat.zero_le _, Nat.zero_le _⟩ dX10_account_1) hS (fun v0 w0 H locs hp hW hS => ?_)
  obtain ⟨rfl, rfl, zr1⟩ := hp
  refine lv_if_ne (tgt := 9) hx hb dX10_account_4 (by decide) (fun c4 => ?_) (fun c4 => ?_)
  · rw [if_neg c4] at h
    refine lv_iload_n hx hb dX10_account_9 rfl (lv_at hl 2 rfl) ?_
    by_cases c5 : (y : Int32) = 0
    · rw [if_pos c5] at h
      refine lv_tableIn (off := 42) (tgt := 52) hx hb dX10_account_10 (by rw [c5]; decide) (by rw [c5]; decide) (by rw [c5]; rfl) (by decide) ?_
      refine lv_aload_n hx hb dX10_account_52 rfl (lv_at hl 0 rfl) ?_
      refine rGet (k := 0) C hW (by decide) tm_BF rfl inX10 (by decide) fl_X10_10 rfl dX10_account_53 ?_
      refine rGetN (k := 0) C hW (wB_lt (r := 0) h05 (by decide)) (tm_Works0 h05) rfl inX9 (by decide) fl_X10_69 rfl dX10_account_56 ?_
      refine lv_iload_n hx hb dX10_account_59 rfl (lv_at hl 1 rfl) ?_
      obtain ⟨r6, M7, h8, h⟩ := bind2 h
      refine cBack C.2.2.2.2.2.2.2.2 (runV (As := [.int (x)]) (rest := []) C hW hS (c_X6_of l g M2 (wB 0 + 1) 0 2 x (MX_bought h05) _ _ h8) kV_X6_of ml_X10_58 (MX_bought h05).lt (MX_bought h05).cel rfl rfl rfl hl.1 rfl (Nat.le_of_ble_eq_true rfl) ⟨Nat.le_of_ble_eq_true rfl, Nat.le_of_ble_eq_true rfl⟩ ⟨Nat.zero_le _, Nat.zero_le _⟩ dX10_account_60) hS (fun v0 w0 H locs hp hW hS => ?_)
      obtain ⟨rfl, rfl⟩ := hp
      cases h
      exact rI C hr hlk dX10_account_63 hW hS ⟨rfl, rfl⟩
    rw [if_neg c5] at h
    by_cases c9 : (y : Int32) = 1
    · rw [if_pos c9] at h
      refine lv_tableIn (off := 54) (tgt := 64) hx hb dX10_account_10 (by rw [c9]; decide) (by rw [c9]; decide) (by rw [c9]; rfl) (by decide) ?_
      refine lv_aload_n hx hb dX10_account_64 rfl (lv_at hl 0 rfl) ?_
      refine rGet (k := 0) C hW (by decide) tm_BF rfl inX10 (by decide) fl_X10_10 rfl dX10_account_65 ?_
      refine rGetN (k := 1) C hW (wB_lt (r := 0) h05 (by decide)) (tm_Works0 h05) rfl inX9 (by decide) fl_X10_54 rfl dX10_account_68 ?_
      refine lv_iload_n hx hb dX10_account_71 rfl (lv_at hl 1 rfl) ?_
      obtain ⟨r10, M11, h12, h⟩ := bind2 h
      refine cBack C.2.2.2.2.2.2.2.2 (runV (As := [.int (x)]) (rest := []) C hW hS (c_X6_of l g M2 (wB 0 + 2) 0 0 x (MX_stock h05) _ _ h12) kV_X6_of ml_X10_58 (MX_stock h05).lt (MX_stock h05).cel rfl rfl rfl hl.1 rfl (Nat.le_of_ble_eq_true rfl) ⟨Nat.le_of_ble_eq_true rfl, Nat.le_of_ble_eq_true rfl⟩ ⟨Nat.zero_le _, Nat.zero_le _⟩ dX10_account_72) hS (fun v0 w0 H locs hp hW hS => ?_)
      obtain ⟨rfl, rfl⟩ := hp
      cases h
      exact rI C hr hlk dX10_account_75 hW hS ⟨rfl, rfl⟩
    rw [if_neg c9] at h
    by_cases c13 : (y : Int32) = 2
    · rw [if_pos c13] at h
      refine lv_tableIn (off := 66) (tgt := 76) hx hb dX10_account_10 (by rw [c13]; decide) (by rw [c13]; decide) (by rw [c13]; rfl) (by decide) ?_
      refine lv_aload_n hx hb dX10_account_76 rfl (lv_at hl 0 rfl) ?_
      refine rGet (k := 0) C hW (by decide) tm_BF rfl inX10 (by decide) fl_X10_10 rfl dX10_account_77 ?_
      refine rGetN (k := 3) C hW (wB_lt (r := 0) h05 (by decide)) (tm_Works0 h05) rfl inX9 (by decide) fl_X10_76 rfl dX10_account_80 ?_
      refine lv_iload_n hx hb dX10_account_83 rfl (lv_at hl 1 rfl) ?_
      obtain ⟨r14, M15, h16, h⟩ := bind2 h
      refine cBack C.2.2.2.2.2.2.2.2 (runV (As := [.int (x)]) (rest := []) C hW hS (c_X6_of l g M2 (wB 0 + 4) 0 6 x (MX_melt h05) _ _ h16) kV_X6_of ml_X10_58 (MX_melt h05).lt (MX_melt h05).cel rfl rfl rfl hl.1 rfl (Nat.le_of_ble_eq_true rfl) ⟨Nat.le_of_ble_eq_true rfl, Nat.le_of_ble_eq_true rfl⟩ ⟨Nat.zero_le _, Nat.zero_le _⟩ dX10_account_84) hS (fun v0 w0 H locs hp hW hS => ?_)
      obtain ⟨rfl, rfl⟩ := hp
      cases h
      exact rI C hr hlk dX10_account_87 hW hS ⟨rfl, rfl⟩
    rw [if_neg c13] at h
    by_cases c17 : (y : Int32) = 3
    · rw [if_pos c17] at h
      refine lv_tableIn (off := 78) (tgt := 88) hx hb dX10_account_10 (by rw [c17]; decide) (by rw [c17]; decide) (by rw [c17]; rfl) (by decide) ?_
      refine lv_aload_n hx hb dX10_account_88 rfl (lv_at hl 0 rfl) ?_
      refine rGet (k := 0) C hW (by decide) tm_BF rfl inX10 (by decide) fl_X10_10 rfl dX10_account_89 ?_
      refine rGetN (k := 4) C hW (wB_lt (r := 0) h05 (by decide)) (tm_Works0 h05) rfl inX9 (by decide) fl_X10_83 rfl dX10_account_92 ?_
      refine lv_iload_n hx hb dX10_account_95 rfl (lv_at hl 1 rfl) ?_
      obtain ⟨r18, M19, h20, h⟩ := bind2 h
      refine cBack C.2.2.2.2.2.2.2.2 (runV (As := [.int (x)]) (rest := []) C hW hS (c_X2_of l g M2 0 x h05 _ _ h20) kV_X2_of ml_X10_241 (wB_lt h05 (by decide)) (tm_Heap h05) rfl rfl rfl hl.1 rfl (Nat.le_of_ble_eq_true rfl) ⟨Nat.le_of_ble_eq_true rfl, Nat.le_of_ble_eq_true rfl⟩ ⟨Nat.zero_le _, Nat.zero_le _⟩ dX10_account_96) hS (fun v0 w0 H locs hp hW hS => ?_)
      obtain ⟨rfl, rfl⟩ := hp
      cases h
      exact rI C hr hlk dX10_account_99 hW hS ⟨rfl, rfl⟩
    rw [if_neg c17] at h
    by_cases c21 : (y : Int32) = 4
    · rw [if_pos c21] at h
      refine lv_tableIn (off := 90) (tgt := 100) hx hb dX10_account_10 (by rw [c21]; decide) (by rw [c21]; decide) (by rw [c21]; rfl) (by decide) ?_
      refine lv_aload_n hx hb dX10_account_100 rfl (lv_at hl 0 rfl) ?_
      refine rGet (k := 0) C hW (by decide) tm_BF rfl inX10 (by decide) fl_X10_10 rfl dX10_account_101 ?_
      refine lv_iload_n hx hb dX10_account_104 rfl (lv_at hl 1 rfl) ?_
      refine lv_iconst (v := 0) hx hb dX10_account_105 (by decide) ?_
      obtain ⟨r22, M23, h24, h⟩ := bind2 h
      refine cBack C.2.2.2.2.2.2.2.2 (runV (As := [.int (x), .int (0)]) (rest := []) C hW hS (c_X9_inBells l g M2 0 x 0 h05 _ _ h24) kV_X9_inBells ml_X10_242 (wB_lt (r := 0) h05 (by decide)) (tm_Works0 h05) rfl rfl rfl hl.1 rfl (Nat.le_of_ble_eq_true rfl) ⟨Nat.le_of_ble_eq_true rfl, Nat.le_of_ble_eq_true rfl⟩ ⟨Nat.zero_le _, Nat.zero_le _⟩ dX10_account_106) hS (fun v0 w0 H locs hp hW hS => ?_)
      obtain ⟨rfl, rfl⟩ := hp
      refine lv_aload_n hx hb dX10_account_109 rfl (lv_at hl 0 rfl) ?_
      refine rGet (k := 0) C hW (by decide) tm_BF rfl inX10 (by decide) fl_X10_10 rfl dX10_account_110 ?_
      refine lv_iload_n hx hb dX10_account_113 rfl (lv_at hl 1 rfl) ?_
      refine lv_iconst (v := 1) hx hb dX10_account_114 (by decide) ?_
      obtain ⟨r25, M26, h27, h⟩ := bind2 h
      refine cBack C.2.2.2.2.2.2.2.2 (runV (As := [.int (x), .int (1)]) (rest := [.int (r22)]) C hW hS (c_X9_inBells l g M23 0 x 1 h05 _ _ h27) kV_X9_inBells ml_X10_242 (wB_lt (r := 0) h05 (by decide)) (tm_Works0 h05) rfl rfl rfl hl.1 rfl (Nat.le_of_ble_eq_true rfl) ⟨Nat.le_of_ble_eq_true rfl, Nat.le_of_ble_eq_true rfl⟩ ⟨Nat.zero_le _, Nat.zero_le _⟩ dX10_account_115) hS (fun v0 w0 H locs hp hW hS => ?_)
      obtain ⟨rfl, rfl⟩ := hp
      refine lv_iadd hx hb dX10_account_118 ?_
      cases h
      exact rI C hr hlk dX10_account_119 hW hS ⟨rfl, rfl⟩
    rw [if_neg c21] at h
    by_cases c28 : (y : Int32) = 5
    · rw [if_pos c28] at h
      refine lv_tableIn (off := 110) (tgt := 120) hx hb dX10_account_10 (by rw [c28]; decide) (by rw [c28]; decide) (by rw [c28]; rfl) (by decide) ?_
      refine lv_aload_n hx hb dX10_account_120 rfl (lv_at hl 0 rfl) ?_
      refine rGet (k := 0) C hW (by decide) tm_BF rfl inX10 (by decide) fl_X10_10 rfl dX10_account_121 ?_
      refine lv_iload_n hx hb dX10_account_124 rfl (lv_at hl 1 rfl) ?_
      refine lv_iconst (v := 2) hx hb dX10_account_125 (by decide) ?_
      obtain ⟨r29, M30, h31, h⟩ := bind2 h
      refine cBack C.2.2.2.2.2.2.2.2 (runV (As := [.int (x), .int (2)]) (rest := []) C hW hS (c_X9_inBells l g M2 0 x 2 h05 _ _ h31) kV_X9_inBells ml_X10_242 (wB_lt (r := 0) h05 (by decide)) (tm_Works0 h05) rfl rfl rfl hl.1 rfl (Nat.le_of_ble_eq_true rfl) ⟨Nat.le_of_ble_eq_true rfl, Nat.le_of_ble_eq_true rfl⟩ ⟨Nat.zero_le _, Nat.zero_le _⟩ dX10_account_126) hS (fun v0 w0 H locs hp hW hS => ?_)
      obtain ⟨rfl, rfl⟩ := hp
      cases h
      exact rI C hr hlk dX10_account_129 hW hS ⟨rfl, rfl⟩
    rw [if_neg c28] at h
    by_cases c32 : (y : Int32) = 6
    · rw [if_pos c32] at h
      refine lv_tableIn (off := 120) (tgt := 130) hx hb dX10_account_10 (by rw [c32]; decide) (by rw [c32]; decide) (by rw [c32]; rfl) (by decide) ?_
      refine lv_aload_n hx hb dX10_account_130 rfl (lv_at hl 0 rfl) ?_
      refine rGet (k := 0) C hW (by decide) tm_BF rfl inX10 (by decide) fl_X10_10 rfl dX10_account_131 ?_
      refine rGetN (k := 2) C hW (wB_lt (r := 0) h05 (by decide)) (tm_Works0 h05) rfl inX9 (by decide) fl_X10_245 rfl dX10_account_134 ?_
      refine lv_iload_n hx hb dX10_account_137 rfl (lv_at hl 1 rfl) ?_
      obtain ⟨r33, M34, h35, h⟩ := bind2 h
      refine cBack C.2.2.2.2.2.2.2.2 (runV (As := [.int (x)]) (rest := []) C hW hS (c_X6_of l g M2 (wB 0 + 3) 0 4 x (MX_slag h05) _ _ h35) kV_X6_of ml_X10_58 (MX_slag h05).lt (MX_slag h05).cel rfl rfl rfl hl.1 rfl (Nat.le_of_ble_eq_true rfl) ⟨Nat.le_of_ble_eq_true rfl, Nat.le_of_ble_eq_true rfl⟩ ⟨Nat.zero_le _, Nat.zero_le _⟩ dX10_account_138) hS (fun v0 w0 H locs hp hW hS => ?_)
      obtain ⟨rfl, rfl⟩ := hp
      cases h
      exact rI C hr hlk dX10_account_141 hW hS ⟨rfl, rfl⟩
    rw [if_neg c32] at h
    refine lv_tableOut (tgt := 142) hx hb dX10_account_10 (by have nc5 := lv_neT (a := 0) c5 rfl; have nc9 := lv_neT (a := 1) c9 rfl; have nc13 := lv_neT (a := 2) c13 rfl; have nc17 := lv_neT (a := 3) c17 rfl; have nc21 := lv_neT (a := 4) c21 rfl; have nc28 := lv_neT (a := 5) c28 rfl; have nc32 := lv_neT (a := 6) c32 rfl; omega) (by decide) ?_
    refine lv_iconst (v := -1) hx hb dX10_account_142 (by decide) ?_
    cases h
    exact rI C hr hlk dX10_account_143 hW hS ⟨rfl, rfl⟩
  · rw [if_pos c4] at h
    refine lv_iconst (v := -1) hx hb dX10_account_7 (by decide) ?_
    cases h
    exact rI C hr hlk dX10_account_8 hW hS ⟨rfl, rfl⟩
def f_X10_count (M : MM) (x : Int32) : Option (Int32 × MM) := (if (x : Int32) = 0 then some (M 0 8, M) else (if (x : Int32) = 1 then some (M 0 52, M) else (if (x : Int32) = 2 then (bnd2 (f_X9_remainingBells M 0) fun r4 M5 => some (r4, M5)) else (if (x : Int32) = 3 then (bnd2 (f_X9_bellsIn M 0 1) fun r8 M9 => some (r8, M9)) else (if (x : Int32) = 4 then (bnd2 (f_X9_bellsIn M 0 2) fun r12 M13 => some (r12, M13)) else (if (x : Int32) = 5 then some (M 0 53, M) else (if (x : Int32) = 6 then (bnd2 (f_X9_ordersIn M 0 0) fun r17 M18 => some (r17, M18)) else (if (x : Int32) = 7 then (bnd2 (f_X9_ordersIn M 0 1) fun r21 M22 => some (r21, M22)) else (if (x : Int32) = 8 then some (M 6 0, M) else (if (x : Int32) = 9 then some (M 5 0, M) else (bnd2 (f_X10_isIn M x 20 26) fun r26 M27 => (if (r26 : Int32) = 0 then some (-1, M27) else (if vin ((x) - (20)) 7 then some (M27 (40 + 0) ((x) - (20) : Int32).toNatClampNeg, M27) else none)))))))))))))
set_option maxHeartbeats 4000000 in
set_option maxRecDepth 100000 in
theorem c_X10_count (l : Launch) (g : GD) (M : MM) (x : Int32) (r : Int32) (M2 : MM) (h : f_X10_count M x = some (r, M2)) : Met l yX10_count (wm yX10_count cX10_count 2 (some .int)) (RM 2 43) (va_Pc [rf g (0), .int (x)] (WDp g M)) (QQ g (fun v w0 => v = .int r ∧ M2 = w0)) 0 0 (AA g) := by
  refine mkM (by decide +kernel) (Nat.le_of_ble_eq_true rfl) ?_
  intro p e s m below meth c C hr hlk hW hS ls hl
  have hl : lv_has ls 2 [(0, rf g (0)), (1, .int (x))] := hl
  have hx := C.1
  have hb := C.2.1
  have hts := C.2.2.2.2.1
  have h05 : (0 : Nat) < 5 := by decide
  unfold f_X10_count at h
  refine lv_iload_n hx hb dX10_count_0 rfl (lv_at hl 1 rfl) ?_
  by_cases c1 : (x : Int32) = 0
  · rw [if_pos c1] at h
    refine lv_tableIn (off := 55) (tgt := 56) hx hb dX10_count_1 (by rw [c1]; decide) (by rw [c1]; decide) (by rw [c1]; rfl) (by decide) ?_
    refine lv_aload_n hx hb dX10_count_56 rfl (lv_at hl 0 rfl) ?_
    refine rGet (k := 0) C hW (by decide) tm_BF rfl inX10 (by decide) fl_X10_10 rfl dX10_count_57 ?_
    refine rGetN (k := 4) C hW (wB_lt (r := 0) h05 (by decide)) (tm_Works0 h05) rfl inX9 (by decide) fl_X10_83 rfl dX10_count_60 ?_
    refine rGetN (k := 1) C hW (wB_lt h05 (by decide)) (tm_Heap h05) rfl inX2 (by decide) fl_X10_248 rfl dX10_count_63 ?_
    cases h
    exact rI C hr hlk dX10_count_66 hW hS ⟨rfl, rfl⟩
  rw [if_neg c1] at h
  by_cases c2 : (x : Int32) = 1
  · rw [if_pos c2] at h
    refine lv_tableIn (off := 66) (tgt := 67) hx hb dX10_count_1 (by rw [c2]; decide) (by rw [c2]; decide) (by rw [c2]; rfl) (by decide) ?_
    refine lv_aload_n hx hb dX10_count_67 rfl (lv_at hl 0 rfl) ?_
    refine rGet (k := 0) C hW (by decide) tm_BF rfl inX10 (by decide) fl_X10_10 rfl dX10_count_68 ?_
    refine rGetN (k := 8) C hW (wB_lt (r := 0) h05 (by decide)) (tm_Works0 h05) rfl inX9 (by decide) fl_X10_141 rfl dX10_count_71 ?_
    cases h
    exact rI C hr hlk dX10_count_74 hW hS ⟨rfl, rfl⟩
  rw [if_neg c2] at h
  by_cases c3 : (x : Int32) = 2
  · rw [if_pos c3] at h
    refine lv_tableIn (off := 74) (tgt := 75) hx hb dX10_count_1 (by rw [c3]; decide) (by rw [c3]; decide) (by rw [c3]; rfl) (by decide) ?_
    refine lv_aload_n hx hb dX10_count_75 rfl (lv_at hl 0 rfl) ?_
    refine rGet (k := 0) C hW (by decide) tm_BF rfl inX10 (by decide) fl_X10_10 rfl dX10_count_76 ?_
    obtain ⟨r4, M5, h6, h⟩ := bind2 h
    refine cBack C.2.2.2.2.2.2.2.2 (runV (As := []) (rest := []) C hW hS (c_X9_remainingBells l g M 0 h05 _ _ h6) kV_X9_remainingBells ml_X10_138 (wB_lt (r := 0) h05 (by decide)) (tm_Works0 h05) rfl rfl rfl hl.1 rfl (Nat.le_of_ble_eq_true rfl) ⟨Nat.le_of_ble_eq_true rfl, Nat.le_of_ble_eq_true rfl⟩ ⟨Nat.zero_le _, Nat.zero_le _⟩ dX10_count_79) hS (fun v0 w0 H locs hp hW hS => ?_)
    obtain ⟨rfl, rfl⟩ := hp
    cases h
    exact rI C hr hlk dX10_count_82 hW hS ⟨rfl, rfl⟩
  rw [if_neg c3] at h
  by_cases c7 : (x : Int32) = 3
  · rw [if_pos c7] at h
    refine lv_tableIn (off := 82) (tgt := 83) hx hb dX10_count_1 (by rw [c7]; decide) (by rw [c7]; decide) (by rw [c7]; rfl) (by decide) ?_
    refine lv_aload_n hx hb dX10_count_83 rfl (lv_at hl 0 rfl) ?_
    refine rGet (k := 0) C hW (by decide) tm_BF rfl inX10 (by decide) fl_X10_10 rfl dX10_count_84 ?_
    refine lv_iconst (v := 1) hx hb dX10_count_87 (by decide) ?_
    obtain ⟨r8, M9, h10, h⟩ := bind2 h
    refine cBack C.2.2.2.2.2.2.2.2 (runV (As := [.int (1)]) (rest := []) C hW hS (c_X9_bellsIn l g M 0 1 h05 _ _ h10) kV_X9_bellsIn ml_X10_251 (wB_lt (r := 0) h05 (by decide)) (tm_Works0 h05) rfl rfl rfl hl.1 rfl (Nat.le_of_ble_eq_true rfl) ⟨Nat.le_of_ble_eq_true rfl, Nat.le_of_ble_eq_true rfl⟩ ⟨Nat.zero_le _, Nat.zero_le _⟩ dX10_count_88) hS (fun v0 w0 H locs hp hW hS => ?_)
    obtain ⟨rfl, rfl⟩ := hp
    cases h
    exact rI C hr hlk dX10_count_91 hW hS ⟨rfl, rfl⟩
  rw [if_neg c7] at h
  by_cases c11 : (x : Int32) = 4
  · rw [if_pos c11] at h
    refine lv_tableIn (off := 91) (tgt := 92) hx hb dX10_count_1 (by rw [c11]; decide) (by rw [c11]; decide) (by rw [c11]; rfl) (by decide) ?_
    refine lv_aload_n hx hb dX10_count_92 rfl (lv_at hl 0 rfl) ?_
    refine rGet (k := 0) C hW (by decide) tm_BF rfl inX10 (by decide) fl_X10_10 rfl dX10_count_93 ?_
    refine lv_iconst (v := 2) hx hb dX10_count_96 (by decide) ?_
    obtain ⟨r12, M13, h14, h⟩ := bind2 h
    refine cBack C.2.2.2.2.2.2.2.2 (runV (As := [.int (2)]) (rest := []) C hW hS (c_X9_bellsIn l g M 0 2 h05 _ _ h14) kV_X9_bellsIn ml_X10_251 (wB_lt (r := 0) h05 (by decide)) (tm_Works0 h05) rfl rfl rfl hl.1 rfl (Nat.le_of_ble_eq_true rfl) ⟨Nat.le_of_ble_eq_true rfl, Nat.le_of_ble_eq_true rfl⟩ ⟨Nat.zero_le _, Nat.zero_le _⟩ dX10_count_97) hS (fun v0 w0 H locs hp hW hS => ?_)
    obtain ⟨rfl, rfl⟩ := hp
    cases h
    exact rI C hr hlk dX10_count_100 hW hS ⟨rfl, rfl⟩
  rw [if_neg c11] at h
  by_cases c15 : (x : Int32) = 5
  · rw [if_pos c15] at h
    refine lv_tableIn (off := 100) (tgt := 101) hx hb dX10_count_1 (by rw [c15]; decide) (by rw [c15]; decide) (by rw [c15]; rfl) (by decide) ?_
    refine lv_aload_n hx hb dX10_count_101 rfl (lv_at hl 0 rfl) ?_
    refine rGet (k := 0) C hW (by decide) tm_BF rfl inX10 (by decide) fl_X10_10 rfl dX10_count_102 ?_
    refine rGetN (k := 9) C hW (wB_lt (r := 0) h05 (by decide)) (tm_Works0 h05) rfl inX9 (by decide) fl_X10_188 rfl dX10_count_105 ?_
    cases h
    exact rI C hr hlk dX10_count_108 hW hS ⟨rfl, rfl⟩
  rw [if_neg c15] at h
  by_cases c16 : (x : Int32) = 6
  · rw [if_pos c16] at h
    refine lv_tableIn (off := 108) (tgt := 109) hx hb dX10_count_1 (by rw [c16]; decide) (by rw [c16]; decide) (by rw [c16]; rfl) (by decide) ?_
    refine lv_aload_n hx hb dX10_count_109 rfl (lv_at hl 0 rfl) ?_
    refine rGet (k := 0) C hW (by decide) tm_BF rfl inX10 (by decide) fl_X10_10 rfl dX10_count_110 ?_
    refine lv_iconst (v := 0) hx hb dX10_count_113 (by decide) ?_
    obtain ⟨r17, M18, h19, h⟩ := bind2 h
    refine cBack C.2.2.2.2.2.2.2.2 (runV (As := [.int (0)]) (rest := []) C hW hS (c_X9_ordersIn l g M 0 0 h05 _ _ h19) kV_X9_ordersIn ml_X10_185 (wB_lt (r := 0) h05 (by decide)) (tm_Works0 h05) rfl rfl rfl hl.1 rfl (Nat.le_of_ble_eq_true rfl) ⟨Nat.le_of_ble_eq_true rfl, Nat.le_of_ble_eq_true rfl⟩ ⟨Nat.zero_le _, Nat.zero_le _⟩ dX10_count_114) hS (fun v0 w0 H locs hp hW hS => ?_)
    obtain ⟨rfl, rfl⟩ := hp
    cases h
    exact rI C hr hlk dX10_count_117 hW hS ⟨rfl, rfl⟩
  rw [if_neg c16] at h
  by_cases c20 : (x : Int32) = 7
  · rw [if_pos c20] at h
    refine lv_tableIn (off := 117) (tgt := 118) hx hb dX10_count_1 (by rw [c20]; decide) (by rw [c20]; decide) (by rw [c20]; rfl) (by decide) ?_
    refine lv_aload_n hx hb dX10_count_118 rfl (lv_at hl 0 rfl) ?_
    refine rGet (k := 0) C hW (by decide) tm_BF rfl inX10 (by decide) fl_X10_10 rfl dX10_count_119 ?_
    refine lv_iconst (v := 1) hx hb dX10_count_122 (by decide) ?_
    obtain ⟨r21, M22, h23, h⟩ := bind2 h
    refine cBack C.2.2.2.2.2.2.2.2 (runV (As := [.int (1)]) (rest := []) C hW hS (c_X9_ordersIn l g M 0 1 h05 _ _ h23) kV_X9_ordersIn ml_X10_185 (wB_lt (r := 0) h05 (by decide)) (tm_Works0 h05) rfl rfl rfl hl.1 rfl (Nat.le_of_ble_eq_true rfl) ⟨Nat.le_of_ble_eq_true rfl, Nat.le_of_ble_eq_true rfl⟩ ⟨Nat.zero_le _, Nat.zero_le _⟩ dX10_count_123) hS (fun v0 w0 H locs hp hW hS => ?_)
    obtain ⟨rfl, rfl⟩ := hp
    cases h
    exact rI C hr hlk dX10_count_126 hW hS ⟨rfl, rfl⟩
  rw [if_neg c20] at h
  by_cases c24 : (x : Int32) = 8
  · rw [if_pos c24] at h
    refine lv_tableIn (off := 126) (tgt := 127) hx hb dX10_count_1 (by rw [c24]; decide) (by rw [c24]; decide) (by rw [c24]; rfl) (by decide) ?_
    refine lv_aload_n hx hb dX10_count_127 rfl (lv_at hl 0 rfl) ?_
    refine rGet (k := 1) C hW (by decide) tm_BF rfl inX10 (by decide) fl_X10_19 rfl dX10_count_128 ?_
    refine rGetN (k := 1) C hW (by decide) tm_Hist rfl inX3 (by decide) fl_X10_254 rfl dX10_count_131 ?_
    cases h
    exact rI C hr hlk dX10_count_134 hW hS ⟨rfl, rfl⟩
  rw [if_neg c24] at h
  by_cases c25 : (x : Int32) = 9
  · rw [if_pos c25] at h
    refine lv_tableIn (off := 134) (tgt := 135) hx hb dX10_count_1 (by rw [c25]; decide) (by rw [c25]; decide) (by rw [c25]; rfl) (by decide) ?_
    refine lv_aload_n hx hb dX10_count_135 rfl (lv_at hl 0 rfl) ?_
    refine rGet (k := 5) C hW (by decide) tm_BF rfl inX10 (by decide) fl_X10_41 rfl dX10_count_136 ?_
    cases h
    exact rI C hr hlk dX10_count_139 hW hS ⟨rfl, rfl⟩
  rw [if_neg c25] at h
  refine lv_tableOut (tgt := 140) hx hb dX10_count_1 (by have nc1 := lv_neT (a := 0) c1 rfl; have nc2 := lv_neT (a := 1) c2 rfl; have nc3 := lv_neT (a := 2) c3 rfl; have nc7 := lv_neT (a := 3) c7 rfl; have nc11 := lv_neT (a := 4) c11 rfl; have nc15 := lv_neT (a := 5) c15 rfl; have nc16 := lv_neT (a := 6) c16 rfl; have nc20 := lv_neT (a := 7) c20 rfl; have nc24 := lv_neT (a := 8) c24 rfl; have nc25 := lv_neT (a := 9) c25 rfl; omega) (by decide) ?_
  refine lv_iload_n hx hb dX10_count_140 rfl (lv_at hl 1 rfl) ?_
  refine lv_bipush (v := 20) hx hb dX10_count_141 (by decide) ?_
  refine lv_bipush (v := 26) hx hb dX10_count_143 (by decide) ?_
  obtain ⟨r26, M27, h28, h⟩ := bind2 h
  refine cBack C.2.2.2.2.2.2.2.2 (runS (As := [.int (x), .int (20), .int (26)]) (rest := []) C hW hS (c_X10_isIn l g M x 20 26 _ _ h28) kS_X10_isIn ml_X10_50 rfl hl.1 rfl (Nat.le_of_ble_eq_true rfl) ⟨Nat.le_of_ble_eq_true rfl, Nat.le_of_ble_eq_true rfl⟩ ⟨Nat.zero_le _, Nat.zero_le _⟩ dX10_count_145) hS (fun v0 w0 H locs hp hW hS => ?_)
  obtain ⟨rfl, rfl, zr26⟩ := hp
  refine lv_if_eq (tgt := 166) hx hb dX10_count_148 (by decide) (fun c29 => ?_) (fun c29 => ?_)
  · rw [if_pos c29] at h
    refine lv_iconst (v := -1) hx hb dX10_count_166 (by decide) ?_
    cases h
    exact rI C hr hlk dX10_count_167 hW hS ⟨rfl, rfl⟩
  · rw [if_neg c29] at h
    refine lv_aload_n hx hb dX10_count_151 rfl (lv_at hl 0 rfl) ?_
    refine rGet (k := 0) C hW (by decide) tm_BF rfl inX10 (by decide) fl_X10_10 rfl dX10_count_152 ?_
    refine rGetN (k := 5) C hW (wB_lt (r := 0) h05 (by decide)) (tm_Works0 h05) rfl inX9 (by decide) fl_X10_129 rfl dX10_count_155 ?_
    refine lv_iload_n hx hb dX10_count_158 rfl (lv_at hl 1 rfl) ?_
    refine lv_bipush (v := 20) hx hb dX10_count_159 (by decide) ?_
    refine lv_isub hx hb dX10_count_161 ?_
    have s30 : vin ((x) - (20)) 7 := Classical.byContradiction fun q9 => by rw [if_neg q9] at h; cases h
    rw [if_pos s30] at h
    refine rIld C hW (wB_lt h05 (by decide)) (tm_settings h05) s30 dX10_count_162 ?_
    refine lv_goto (tgt := 167) hx hb dX10_count_163 (by decide) ?_
    cases h
    exact rI C hr hlk dX10_count_167 hW hS ⟨rfl, rfl⟩
def f_X10_undo (M : MM)  : Option (Int32 × MM) := (if (M 6 0 : Int32) = 0 then some (-2, M) else (bnd2 (f_X3_restore M 0) fun r2 M3 => some (M3 6 0, M3)))
set_option maxHeartbeats 4000000 in
set_option maxRecDepth 100000 in
theorem c_X10_undo (l : Launch) (g : GD) (M : MM)  (r : Int32) (M2 : MM) (h : f_X10_undo M  = some (r, M2)) : Met l yX10_undo (wm yX10_undo cX10_undo 1 (some .int)) (RM 4 86) (va_Pc [rf g (0)] (WDp g M)) (QQ g (fun v w0 => v = .int r ∧ M2 = w0)) 0 0 (AA g) := by
  refine mkM (by decide +kernel) (Nat.le_of_ble_eq_true rfl) ?_
  intro p e s m below meth c C hr hlk hW hS ls hl
  have hl : lv_has ls 1 [(0, rf g (0))] := hl
  have hx := C.1
  have hb := C.2.1
  have hts := C.2.2.2.2.1
  have h05 : (0 : Nat) < 5 := by decide
  unfold f_X10_undo at h
  refine lv_aload_n hx hb dX10_undo_0 rfl (lv_at hl 0 rfl) ?_
  refine rGet (k := 1) C hW (by decide) tm_BF rfl inX10 (by decide) fl_X10_19 rfl dX10_undo_1 ?_
  refine rGetN (k := 1) C hW (by decide) tm_Hist rfl inX3 (by decide) fl_X10_254 rfl dX10_undo_4 ?_
  refine lv_if_ne (tgt := 13) hx hb dX10_undo_7 (by decide) (fun c1 => ?_) (fun c1 => ?_)
  · rw [if_neg c1] at h
    refine lv_aload_n hx hb dX10_undo_13 rfl (lv_at hl 0 rfl) ?_
    refine rGet (k := 1) C hW (by decide) tm_BF rfl inX10 (by decide) fl_X10_19 rfl dX10_undo_14 ?_
    refine lv_aload_n hx hb dX10_undo_17 rfl (lv_at hl 0 rfl) ?_
    refine rGet (k := 0) C hW (by decide) tm_BF rfl inX10 (by decide) fl_X10_10 rfl dX10_undo_18 ?_
    obtain ⟨r2, M3, h4, h⟩ := bind2 h
    refine cBackV C.2.2.2.2.2.2.2.2 (runV (As := [rf g (wB 0)]) (rest := []) C hW hS (c_X3_restore l g M 0 h05 _ _ h4) kV_X3_restore ml_X10_255 (by decide) tm_Hist rfl rfl rfl hl.1 rfl (Nat.le_of_ble_eq_true rfl) ⟨Nat.le_of_ble_eq_true rfl, Nat.le_of_ble_eq_true rfl⟩ ⟨Nat.zero_le _, Nat.zero_le _⟩ dX10_undo_21) hS (fun v0 H locs hp hW hS => ?_)
    subst hp
    refine lv_aload_n hx hb dX10_undo_24 rfl (lv_at hl 0 rfl) ?_
    refine rGet (k := 1) C hW (by decide) tm_BF rfl inX10 (by decide) fl_X10_19 rfl dX10_undo_25 ?_
    refine rGetN (k := 1) C hW (by decide) tm_Hist rfl inX3 (by decide) fl_X10_254 rfl dX10_undo_28 ?_
    cases h
    exact rI C hr hlk dX10_undo_31 hW hS ⟨rfl, rfl⟩
  · rw [if_pos c1] at h
    refine lv_bipush (v := -2) hx hb dX10_undo_10 (by decide) ?_
    cases h
    exact rI C hr hlk dX10_undo_12 hW hS ⟨rfl, rfl⟩
def f_X10_type (M : MM) (x : Int32) : Option (Int32 × MM) := (bnd2 (f_X10_isIn M x 32 126) fun r1 M2 => (if (r1 : Int32) = 0 then some (-1, M2) else (if (M2 5 0 : Int32) < (60 : Int32) then (if vin (M2 5 0) 60 then (letB (up2 M2 14 (M2 5 0 : Int32).toNatClampNeg (vp_nar .char (((x : Int32).toUInt32 % 65536).toInt32))) fun M7 => (letB (up2 M7 5 0 ((M7 5 0) + (1))) fun M8 => some (M8 5 0, M8))) else none) else some (-3, M2))))
set_option maxHeartbeats 4000000 in
set_option maxRecDepth 100000 in
theorem c_X10_type (l : Launch) (g : GD) (M : MM) (x : Int32) (r : Int32) (M2 : MM) (h : f_X10_type M x = some (r, M2)) : Met l yX10_type (wm yX10_type cX10_type 2 (some .int)) (RM 1 22) (va_Pc [rf g (0), .int (x)] (WDp g M)) (QQ g (fun v w0 => v = .int r ∧ M2 = w0)) 0 0 (AA g) := by
  refine mkM (by decide +kernel) (Nat.le_of_ble_eq_true rfl) ?_
  intro p e s m below meth c C hr hlk hW hS ls hl
  have hl : lv_has ls 2 [(0, rf g (0)), (1, .int (x))] := hl
  have hx := C.1
  have hb := C.2.1
  have hts := C.2.2.2.2.1
  have h05 : (0 : Nat) < 5 := by decide
  unfold f_X10_type at h
  refine lv_iload_n hx hb dX10_type_0 rfl (lv_at hl 1 rfl) ?_
  refine lv_bipush (v := 32) hx hb dX10_type_1 (by decide) ?_
  refine lv_bipush (v := 126) hx hb dX10_type_3 (by decide) ?_
  obtain ⟨r1, M2, h3, h⟩ := bind2 h
  refine cBack C.2.2.2.2.2.2.2.2 (runS (As := [.int (x), .int (32), .int (126)]) (rest := []) C hW hS (c_X10_isIn l g M x 32 126 _ _ h3) kS_X10_isIn ml_X10_50 rfl hl.1 rfl (Nat.le_of_ble_eq_true rfl) ⟨Nat.le_of_ble_eq_true rfl, Nat.le_of_ble_eq_true rfl⟩ ⟨Nat.zero_le _, Nat.zero_le _⟩ dX10_type_5) hS (fun v0 w0 H locs hp hW hS => ?_)
  obtain ⟨rfl, rfl, zr1⟩ := hp
  refine lv_if_ne (tgt := 13) hx hb dX10_type_8 (by decide) (fun c4 => ?_) (fun c4 => ?_)
  · rw [if_neg c4] at h
    refine lv_aload_n hx hb dX10_type_13 rfl (lv_at hl 0 rfl) ?_
    refine rGet (k := 5) C hW (by decide) tm_BF rfl inX10 (by decide) fl_X10_41 rfl dX10_type_14 ?_
    refine lv_bipush (v := 60) hx hb dX10_type_17 (by decide) ?_
    refine lv_icmp_lt (tgt := 25) hx hb dX10_type_19 (by decide) (fun c5 => ?_) (fun c5 => ?_)
    · rw [if_pos c5] at h
      refine lv_aload_n hx hb dX10_type_25 rfl (lv_at hl 0 rfl) ?_
      refine rGet (k := 4) C hW (by decide) tm_BF rfl inX10 (by decide) fl_X10_37 rfl dX10_type_26 ?_
      refine lv_aload_n hx hb dX10_type_29 rfl (lv_at hl 0 rfl) ?_
      refine rGet (k := 5) C hW (by decide) tm_BF rfl inX10 (by decide) fl_X10_41 rfl dX10_type_30 ?_
      refine lv_iload_n hx hb dX10_type_33 rfl (lv_at hl 1 rfl) ?_
      refine lv_i2c hx hb dX10_type_34 rfl ?_
      have s6 : vin (M2 5 0) 60 := Classical.byContradiction fun q9 => by rw [if_neg q9] at h; cases h
      rw [if_pos s6] at h
      refine rCst (M' := up2 M2 14 (M2 5 0 : Int32).toNatClampNeg (vp_nar .char (((x : Int32).toUInt32 % 65536).toInt32))) C hW hS (by decide) tm_text s6 (UPD_G (by decide) rfl (by rw [tm_text, up2_gr])) dX10_type_35 (fun H locs hW hS => ?_)
      have hW : Wd g (up2 M2 14 (M2 5 0 : Int32).toNatClampNeg (vp_nar .char (((x : Int32).toUInt32 % 65536).toInt32))) H := hW
      have h := letE h
      generalize up2 M2 14 (M2 5 0 : Int32).toNatClampNeg (vp_nar .char (((x : Int32).toUInt32 % 65536).toInt32)) = M7 at hW h
      refine lv_aload_n hx hb dX10_type_36 rfl (lv_at hl 0 rfl) ?_
      refine lv_dup hx hb dX10_type_37 rfl ?_
      refine rGet (k := 5) C hW (by decide) tm_BF rfl inX10 (by decide) fl_X10_41 rfl dX10_type_38 ?_
      refine lv_iconst (v := 1) hx hb dX10_type_41 (by decide) ?_
      refine lv_iadd hx hb dX10_type_42 ?_
      refine rPut (k := 5) C hW hS (by decide) tm_BF rfl inX10 tyX10_ok nmX10 (by decide) fl_X10_41 rfl (by decide +kernel) (Nat.le_of_ble_eq_true rfl) (upd_BF_length _) dX10_type_43 (fun H locs hW hS => ?_)
      have hW : Wd g (up2 M7 5 0 ((M7 5 0) + (1))) H := hW
      have h := letE h
      generalize up2 M7 5 0 ((M7 5 0) + (1)) = M8 at hW h
      refine lv_aload_n hx hb dX10_type_46 rfl (lv_at hl 0 rfl) ?_
      refine rGet (k := 5) C hW (by decide) tm_BF rfl inX10 (by decide) fl_X10_41 rfl dX10_type_47 ?_
      cases h
      exact rI C hr hlk dX10_type_50 hW hS ⟨rfl, rfl⟩
    · rw [if_neg c5] at h
      refine lv_bipush (v := -3) hx hb dX10_type_22 (by decide) ?_
      cases h
      exact rI C hr hlk dX10_type_24 hW hS ⟨rfl, rfl⟩
  · rw [if_pos c4] at h
    refine lv_iconst (v := -1) hx hb dX10_type_11 (by decide) ?_
    cases h
    exact rI C hr hlk dX10_type_12 hW hS ⟨rfl, rfl⟩
def f_X10_clearText (M : MM)  : Option (Int32 × MM) := (letB (up2 M 5 0 (0)) fun M1 => some (M 5 0, M1))
set_option maxHeartbeats 4000000 in
set_option maxRecDepth 100000 in
theorem c_X10_clearText (l : Launch) (g : GD) (M : MM)  (r : Int32) (M2 : MM) (h : f_X10_clearText M  = some (r, M2)) : Met l yX10_clearText (wm yX10_clearText cX10_clearText 2 (some .int)) (RM 0 0) (va_Pc [rf g (0)] (WDp g M)) (QQ g (fun v w0 => v = .int r ∧ M2 = w0)) 0 0 (AA g) := by
  refine mkM (by decide +kernel) (Nat.le_of_ble_eq_true rfl) ?_
  intro p e s m below meth c C hr hlk hW hS ls hl
  have hl : lv_has ls 2 [(0, rf g (0))] := hl
  have hx := C.1
  have hb := C.2.1
  have hts := C.2.2.2.2.1
  have h05 : (0 : Nat) < 5 := by decide
  unfold f_X10_clearText at h
  refine lv_aload_n hx hb dX10_clearText_0 rfl (lv_at hl 0 rfl) ?_
  refine rGet (k := 5) C hW (by decide) tm_BF rfl inX10 (by decide) fl_X10_41 rfl dX10_clearText_1 ?_
  refine lv_istore_n (lv' := [(1, .int (M 5 0)), (0, rf g (0))]) hx hb dX10_clearText_4 rfl hl (by decide) rfl (fun ls hl => ?_)
  refine lv_aload_n hx hb dX10_clearText_5 rfl (lv_at hl 1 rfl) ?_
  refine lv_iconst (v := 0) hx hb dX10_clearText_6 (by decide) ?_
  refine rPut (k := 5) C hW hS (by decide) tm_BF rfl inX10 tyX10_ok nmX10 (by decide) fl_X10_41 rfl (by decide +kernel) (Nat.le_of_ble_eq_true rfl) (upd_BF_length _) dX10_clearText_7 (fun H locs hW hS => ?_)
  have hW : Wd g (up2 M 5 0 (0)) H := hW
  have h := letE h
  generalize up2 M 5 0 (0) = M1 at hW h
  refine lv_iload_n hx hb dX10_clearText_10 rfl (lv_at hl 0 rfl) ?_
  cases h
  exact rI C hr hlk dX10_clearText_11 hW hS ⟨rfl, rfl⟩
def f_X10_fault (M : MM) (x : Int32) : Option (Int32 × MM) := (bnd2 (f_X10_isIn M x 0 1) fun r1 M2 => (if (r1 : Int32) = 0 then some (-1, M2) else (bnd2 (f_X1_read M2 0 (M2 5 0)) fun r5 M6 => (if (M6 10 2 : Int32) = 0 then some (-4, M6) else (if (x : Int32) = 0 then some (M6 10 1, M6) else some (M6 10 2, M6))))))
set_option maxHeartbeats 4000000 in
set_option maxRecDepth 100000 in
theorem c_X10_fault (l : Launch) (g : GD) (M : MM) (x : Int32) (r : Int32) (M2 : MM) (h : f_X10_fault M x = some (r, M2)) : Met l yX10_fault (wm yX10_fault cX10_fault 2 (some .int)) (RM 5 131) (va_Pc [rf g (0), .int (x)] (WDp g M)) (QQ g (fun v w0 => v = .int r ∧ M2 = w0)) 0 0 (AA g) := by
  refine mkM (by decide +kernel) (Nat.le_of_ble_eq_true rfl) ?_
  intro p e s m below meth c C hr hlk hW hS ls hl
  have hl : lv_has ls 2 [(0, rf g (0)), (1, .int (x))] := hl
  have hx := C.1
  have hb := C.2.1
  have hts := C.2.2.2.2.1
  have h05 : (0 : Nat) < 5 := by decide
  unfold f_X10_fault at h
  refine lv_iload_n hx hb dX10_fault_0 rfl (lv_at hl 1 rfl) ?_
  refine lv_iconst (v := 0) hx hb dX10_fault_1 (by decide) ?_
  refine lv_iconst (v := 1) hx hb dX10_fault_2 (by decide) ?_
  obtain ⟨r1, M2, h3, h⟩ := bind2 h
  refine cBack C.2.2.2.2.2.2.2.2 (runS (As := [.int (x), .int (0), .int (1)]) (rest := []) C hW hS (c_X10_isIn l g M x 0 1 _ _ h3) kS_X10_isIn ml_X10_50 rfl hl.1 rfl (Nat.le_of_ble_eq_true rfl) ⟨Nat.le_of_ble_eq_true rfl, Nat.le_of_ble_eq_true rfl⟩ ⟨Nat.zero_le _, Nat.zero_le _⟩ dX10_fault_3) hS (fun v0 w0 H locs hp hW hS => ?_)
  obtain ⟨rfl, rfl, zr1⟩ := hp
  refine lv_if_ne (tgt := 11) hx hb dX10_fault_6 (by decide) (fun c4 => ?_) (fun c4 => ?_)
  · rw [if_neg c4] at h
    refine lv_aload_n hx hb dX10_fault_11 rfl (lv_at hl 0 rfl) ?_
    refine rGet (k := 3) C hW (by decide) tm_BF rfl inX10 (by decide) fl_X10_33 rfl dX10_fault_12 ?_
    refine lv_aload_n hx hb dX10_fault_15 rfl (lv_at hl 0 rfl) ?_
    refine rGet (k := 4) C hW (by decide) tm_BF rfl inX10 (by decide) fl_X10_37 rfl dX10_fault_16 ?_
    refine lv_aload_n hx hb dX10_fault_19 rfl (lv_at hl 0 rfl) ?_
    refine rGet (k := 5) C hW (by decide) tm_BF rfl inX10 (by decide) fl_X10_41 rfl dX10_fault_20 ?_
    refine lv_aload_n hx hb dX10_fault_23 rfl (lv_at hl 0 rfl) ?_
    refine rGet (k := 0) C hW (by decide) tm_BF rfl inX10 (by decide) fl_X10_10 rfl dX10_fault_24 ?_
    obtain ⟨r5, M6, h7, h⟩ := bind2 h
    refine cBackV C.2.2.2.2.2.2.2.2 (runV (As := [rf g (1696), .int (M2 5 0), rf g (wB 0)]) (rest := []) C hW hS (c_X1_read l g M2 0 (M2 5 0) h05 _ _ h7) kV_X1_read ml_X10_258 (by decide) tm_Read rfl rfl rfl hl.1 rfl (Nat.le_of_ble_eq_true rfl) ⟨Nat.le_of_ble_eq_true rfl, Nat.le_of_ble_eq_true rfl⟩ ⟨Nat.zero_le _, Nat.zero_le _⟩ dX10_fault_27) hS (fun v0 H locs hp hW hS => ?_)
    subst hp
    refine lv_aload_n hx hb dX10_fault_30 rfl (lv_at hl 0 rfl) ?_
    refine rGet (k := 3) C hW (by decide) tm_BF rfl inX10 (by decide) fl_X10_33 rfl dX10_fault_31 ?_
    refine rGetN (k := 2) C hW (by decide) tm_Read rfl inX1 (by decide) fl_X10_262 rfl dX10_fault_34 ?_
    refine lv_if_ne (tgt := 43) hx hb dX10_fault_37 (by decide) (fun c8 => ?_) (fun c8 => ?_)
    · rw [if_neg c8] at h
      refine lv_iload_n hx hb dX10_fault_43 rfl (lv_at hl 1 rfl) ?_
      refine lv_if_ne (tgt := 57) hx hb dX10_fault_44 (by decide) (fun c9 => ?_) (fun c9 => ?_)
      · rw [if_neg c9] at h
        refine lv_aload_n hx hb dX10_fault_57 rfl (lv_at hl 0 rfl) ?_
        refine rGet (k := 3) C hW (by decide) tm_BF rfl inX10 (by decide) fl_X10_33 rfl dX10_fault_58 ?_
        refine rGetN (k := 2) C hW (by decide) tm_Read rfl inX1 (by decide) fl_X10_262 rfl dX10_fault_61 ?_
        cases h
        exact rI C hr hlk dX10_fault_64 hW hS ⟨rfl, rfl⟩
      · rw [if_pos c9] at h
        refine lv_aload_n hx hb dX10_fault_47 rfl (lv_at hl 0 rfl) ?_
        refine rGet (k := 3) C hW (by decide) tm_BF rfl inX10 (by decide) fl_X10_33 rfl dX10_fault_48 ?_
        refine rGetN (k := 1) C hW (by decide) tm_Read rfl inX1 (by decide) fl_X10_265 rfl dX10_fault_51 ?_
        refine lv_goto (tgt := 64) hx hb dX10_fault_54 (by decide) ?_
        cases h
        exact rI C hr hlk dX10_fault_64 hW hS ⟨rfl, rfl⟩
    · rw [if_pos c8] at h
      refine lv_bipush (v := -4) hx hb dX10_fault_40 (by decide) ?_
      cases h
      exact rI C hr hlk dX10_fault_42 hW hS ⟨rfl, rfl⟩
  · rw [if_pos c4] at h
    refine lv_iconst (v := -1) hx hb dX10_fault_9 (by decide) ?_
    cases h
    exact rI C hr hlk dX10_fault_10 hW hS ⟨rfl, rfl⟩
def f_X10_frame (M : MM) (x : Int32) : Option (Int32 × MM) := (bnd2 (f_X10_isIn M x 0 5) fun r1 M2 => (if (r1 : Int32) = 0 then some (-1, M2) else (bnd2 (f_X1_read M2 0 (M2 5 0)) fun r5 M6 => (if (M6 10 2 : Int32) = 0 then (bnd2 (f_X1_tell M6 x) fun r9 M10 => some (r9, M10)) else some (-2, M6)))))
set_option maxHeartbeats 4000000 in
set_option maxRecDepth 100000 in
theorem c_X10_frame (l : Launch) (g : GD) (M : MM) (x : Int32) (r : Int32) (M2 : MM) (h : f_X10_frame M x = some (r, M2)) : Met l yX10_frame (wm yX10_frame cX10_frame 2 (some .int)) (RM 5 131) (va_Pc [rf g (0), .int (x)] (WDp g M)) (QQ g (fun v w0 => v = .int r ∧ M2 = w0)) 0 0 (AA g) := by
  refine mkM (by decide +kernel) (Nat.le_of_ble_eq_true rfl) ?_
  intro p e s m below meth c C hr hlk hW hS ls hl
  have hl : lv_has ls 2 [(0, rf g (0)), (1, .int (x))] := hl
  have hx := C.1
  have hb := C.2.1
  have hts := C.2.2.2.2.1
  have h05 : (0 : Nat) < 5 := by decide
  unfold f_X10_frame at h
  refine lv_iload_n hx hb dX10_frame_0 rfl (lv_at hl 1 rfl) ?_
  refine lv_iconst (v := 0) hx hb dX10_frame_1 (by decide) ?_
  refine lv_iconst (v := 5) hx hb dX10_frame_2 (by decide) ?_
  obtain ⟨r1, M2, h3, h⟩ := bind2 h
  refine cBack C.2.2.2.2.2.2.2.2 (runS (As := [.int (x), .int (0), .int (5)]) (rest := []) C hW hS (c_X10_isIn l g M x 0 5 _ _ h3) kS_X10_isIn ml_X10_50 rfl hl.1 rfl (Nat.le_of_ble_eq_true rfl) ⟨Nat.le_of_ble_eq_true rfl, Nat.le_of_ble_eq_true rfl⟩ ⟨Nat.zero_le _, Nat.zero_le _⟩ dX10_frame_3) hS (fun v0 w0 H locs hp hW hS => ?_)
  obtain ⟨rfl, rfl, zr1⟩ := hp
  refine lv_if_ne (tgt := 11) hx hb dX10_frame_6 (by decide) (fun c4 => ?_) (fun c4 => ?_)
  · rw [if_neg c4] at h
    refine lv_aload_n hx hb dX10_frame_11 rfl (lv_at hl 0 rfl) ?_
    refine rGet (k := 3) C hW (by decide) tm_BF rfl inX10 (by decide) fl_X10_33 rfl dX10_frame_12 ?_
    refine lv_aload_n hx hb dX10_frame_15 rfl (lv_at hl 0 rfl) ?_
    refine rGet (k := 4) C hW (by decide) tm_BF rfl inX10 (by decide) fl_X10_37 rfl dX10_frame_16 ?_
    refine lv_aload_n hx hb dX10_frame_19 rfl (lv_at hl 0 rfl) ?_
    refine rGet (k := 5) C hW (by decide) tm_BF rfl inX10 (by decide) fl_X10_41 rfl dX10_frame_20 ?_
    refine lv_aload_n hx hb dX10_frame_23 rfl (lv_at hl 0 rfl) ?_
    refine rGet (k := 0) C hW (by decide) tm_BF rfl inX10 (by decide) fl_X10_10 rfl dX10_frame_24 ?_
    obtain ⟨r5, M6, h7, h⟩ := bind2 h
    refine cBackV C.2.2.2.2.2.2.2.2 (runV (As := [rf g (1696), .int (M2 5 0), rf g (wB 0)]) (rest := []) C hW hS (c_X1_read l g M2 0 (M2 5 0) h05 _ _ h7) kV_X1_read ml_X10_258 (by decide) tm_Read rfl rfl rfl hl.1 rfl (Nat.le_of_ble_eq_true rfl) ⟨Nat.le_of_ble_eq_true rfl, Nat.le_of_ble_eq_true rfl⟩ ⟨Nat.zero_le _, Nat.zero_le _⟩ dX10_frame_27) hS (fun v0 H locs hp hW hS => ?_)
    subst hp
    refine lv_aload_n hx hb dX10_frame_30 rfl (lv_at hl 0 rfl) ?_
    refine rGet (k := 3) C hW (by decide) tm_BF rfl inX10 (by decide) fl_X10_33 rfl dX10_frame_31 ?_
    refine rGetN (k := 2) C hW (by decide) tm_Read rfl inX1 (by decide) fl_X10_262 rfl dX10_frame_34 ?_
    refine lv_if_ne (tgt := 51) hx hb dX10_frame_37 (by decide) (fun c8 => ?_) (fun c8 => ?_)
    · rw [if_neg c8] at h
      refine lv_bipush (v := -2) hx hb dX10_frame_51 (by decide) ?_
      cases h
      exact rI C hr hlk dX10_frame_53 hW hS ⟨rfl, rfl⟩
    · rw [if_pos c8] at h
      refine lv_aload_n hx hb dX10_frame_40 rfl (lv_at hl 0 rfl) ?_
      refine rGet (k := 3) C hW (by decide) tm_BF rfl inX10 (by decide) fl_X10_33 rfl dX10_frame_41 ?_
      refine lv_iload_n hx hb dX10_frame_44 rfl (lv_at hl 1 rfl) ?_
      obtain ⟨r9, M10, h11, h⟩ := bind2 h
      refine cBack C.2.2.2.2.2.2.2.2 (runV (As := [.int (x)]) (rest := []) C hW hS (c_X1_tell l g M6 x _ _ h11) kV_X1_tell ml_X10_268 (by decide) tm_Read rfl rfl rfl hl.1 rfl (Nat.le_of_ble_eq_true rfl) ⟨Nat.le_of_ble_eq_true rfl, Nat.le_of_ble_eq_true rfl⟩ ⟨Nat.zero_le _, Nat.zero_le _⟩ dX10_frame_45) hS (fun v0 w0 H locs hp hW hS => ?_)
      obtain ⟨rfl, rfl⟩ := hp
      refine lv_goto (tgt := 53) hx hb dX10_frame_48 (by decide) ?_
      cases h
      exact rI C hr hlk dX10_frame_53 hW hS ⟨rfl, rfl⟩
  · rw [if_pos c4] at h
    refine lv_iconst (v := -1) hx hb dX10_frame_9 (by decide) ?_
    cases h
    exact rI C hr hlk dX10_frame_10 hW hS ⟨rfl, rfl⟩
def lp_X10_wagons_30 (fu : Nat) (M : MM)  (x : Int32) (u : Int32) (z : Int32) : Option (Int32 × MM) := match fu with
  | 0 => none
  | n + 1 => (if (M 0 52 : Int32) ≤ (z : Int32) then (if vin (6) 7 then (bnd2 (f_X8_heaviest M ) fun r1003 M1004 => (if (r1003 : Int32) ≤ (M (40 + 0) (6 : Int32).toNatClampNeg : Int32) then (bnd2 (f_X8_fewestWagons M1004 (M (40 + 0) (6 : Int32).toNatClampNeg)) fun r1007 M1008 => some (r1007, M1008)) else some (-2, M1004))) else none) else (if vin (z) 100 then (bnd2 (f_X0_remains M 0 ((z : Int32).toNatClampNeg)) fun r1011 M1012 => (if (r1011 : Int32) = 0 then (lp_X10_wagons_30 n M1012   x u (z + 1)) else (if ((x) &&& (u) : Int32) = 0 then (lp_X10_wagons_30 n M1012   x ((u) <<< ((1) &&& 31)) (z + 1)) else (bnd2 (f_X6_weight M1012 0 (54 + 8 * (z : Int32).toNatClampNeg)) fun r1016 M1017 => (bnd2 (f_X8_add M1017 r1016) fun r1019 M1020 => (lp_X10_wagons_30 n M1020   x ((u) <<< ((1) &&& 31)) (z + 1))))))) else none))
def f_X10_wagons (M : MM) (x : Int32) : Option (Int32 × MM) := (if (x : Int32) < 0 then some (-1, M) else (bnd2 (f_X9_remainingBells M 0) fun r2 M3 => (if (x : Int32) < ((1) <<< ((r2) &&& 31) : Int32) then (bnd2 (f_X8_clear M3 ) fun r6 M7 => (lp_X10_wagons_30 FU M7   x 1 0)) else some (-1, M3))))
set_option maxHeartbeats 4000000 in
set_option maxRecDepth 100000 in
theorem t_X10_wagons_30 (l : Launch) (g : GD) {p : Program} {e : Env} {s : State} {m : MethodId} {av : Array Value} {below : List Frame} {meth : Method} {c : Code}  (n : Nat) : ∀ (M : MM) (x : Int32) (u : Int32) (z : Int32) (r : Int32) (M2 : MM), lp_X10_wagons_30 n M   x u z = some (r, M2) → CX p s m av c cX10_wagons 5 RX10 g → meth.sig.returnType = (some .int) → meth.locks = false → ∀ (H : Heap) (locs : List Loc), Wd g M H → sS g s H locs → ∀ ls : Array Slot, lv_has ls 5 [(0, rf g (0)), (1, .int (x)), (2, .int (u)), (3, .int (z))] → W p l e (RM 3 90) s m av below meth c H locs 0 0 (MQ below (QQ g (fun v w0 => v = .int r ∧ M2 = w0)) av s 0 0 (AA g)) (F0 m 30 ls []) := by
  induction n with
  | zero => intro M x u z r M2 h; cases h
  | succ n ih0 =>
    intro M x u z r M2 h C hr hlk H locs hW hS ls hl
    have ih : ∀ (M : MM) (x : Int32) (u : Int32) (z : Int32), lp_X10_wagons_30 n M   x u z = some (r, M2) → ∀ (H : Heap) (locs : List Loc), Wd g M H → sS g s H locs → ∀ ls : Array Slot, lv_has ls 5 [(0, rf g (0)), (1, .int (x)), (2, .int (u)), (3, .int (z))] → W p l e (RM 3 90) s m av below meth c H locs 0 0 (MQ below (QQ g (fun v w0 => v = .int r ∧ M2 = w0)) av s 0 0 (AA g)) (F0 m 30 ls []) := fun M x u z h H locs hW hS ls hl => ih0 M x u z r M2 h C hr hlk H locs hW hS ls hl
    unfold lp_X10_wagons_30 at h
    try dsimp only at h
    have hx := C.1
    have hb := C.2.1
    have hts := C.2.2.2.2.1
    have h05 : (0 : Nat) < 5 := by decide
    refine lv_iload_n hx hb dX10_wagons_30 rfl (lv_at hl 3 rfl) ?_
    refine lv_aload_n hx hb dX10_wagons_31 rfl (lv_at hl 0 rfl) ?_
    refine rGet (k := 0) C hW (by decide) tm_BF rfl inX10 (by decide) fl_X10_10 rfl dX10_wagons_32 ?_
    refine rGetN (k := 8) C hW (wB_lt (r := 0) h05 (by decide)) (tm_Works0 h05) rfl inX9 (by decide) fl_X10_141 rfl dX10_wagons_35 ?_
    refine lv_icmp_ge (tgt := 91) hx hb dX10_wagons_38 (by decide) (fun c1001 => ?_) (fun c1001 => ?_)
    · rw [if_pos c1001] at h
      refine lv_aload_n hx hb dX10_wagons_91 rfl (lv_at hl 0 rfl) ?_
      refine rGet (k := 0) C hW (by decide) tm_BF rfl inX10 (by decide) fl_X10_10 rfl dX10_wagons_92 ?_
      refine rGetN (k := 5) C hW (wB_lt (r := 0) h05 (by decide)) (tm_Works0 h05) rfl inX9 (by decide) fl_X10_129 rfl dX10_wagons_95 ?_
      refine lv_bipush (v := 6) hx hb dX10_wagons_98 (by decide) ?_
      have s1002 : vin (6) 7 := Classical.byContradiction fun q9 => by rw [if_neg q9] at h; cases h
      rw [if_pos s1002] at h
      refine rIld C hW (wB_lt h05 (by decide)) (tm_settings h05) s1002 dX10_wagons_100 ?_
      refine lv_istore_n (lv' := [(3, .int (M (40 + 0) (6 : Int32).toNatClampNeg)), (0, rf g (0)), (1, .int (x)), (2, .int (u))]) hx hb dX10_wagons_101 rfl hl (by decide) rfl (fun ls hl => ?_)
      refine lv_aload_n hx hb dX10_wagons_102 rfl (lv_at hl 1 rfl) ?_
      refine rGet (k := 2) C hW (by decide) tm_BF rfl inX10 (by decide) fl_X10_26 rfl dX10_wagons_103 ?_
      obtain ⟨r1003, M1004, h1005, h⟩ := bind2 h
      refine cBack C.2.2.2.2.2.2.2.2 (runV (As := []) (rest := []) C hW hS (c_X8_heaviest l g M  _ _ h1005) kV_X8_heaviest ml_X10_235 (by decide) tm_Pack rfl rfl rfl hl.1 rfl (Nat.le_of_ble_eq_true rfl) ⟨Nat.le_of_ble_eq_true rfl, Nat.le_of_ble_eq_true rfl⟩ ⟨Nat.zero_le _, Nat.zero_le _⟩ dX10_wagons_106) hS (fun v0 w0 H locs hp hW hS => ?_)
      obtain ⟨rfl, rfl⟩ := hp
      refine lv_iload_n hx hb dX10_wagons_109 rfl (lv_at hl 0 rfl) ?_
      refine lv_icmp_le (tgt := 118) hx hb dX10_wagons_110 (by decide) (fun c1006 => ?_) (fun c1006 => ?_)
      · rw [if_pos c1006] at h
        refine lv_aload_n hx hb dX10_wagons_118 rfl (lv_at hl 1 rfl) ?_
        refine rGet (k := 2) C hW (by decide) tm_BF rfl inX10 (by decide) fl_X10_26 rfl dX10_wagons_119 ?_
        refine lv_iload_n hx hb dX10_wagons_122 rfl (lv_at hl 0 rfl) ?_
        obtain ⟨r1007, M1008, h1009, h⟩ := bind2 h
        refine cBack C.2.2.2.2.2.2.2.2 (runV (As := [.int (M (40 + 0) (6 : Int32).toNatClampNeg)]) (rest := []) C hW hS (c_X8_fewestWagons l g M1004 (M (40 + 0) (6 : Int32).toNatClampNeg) _ _ h1009) kV_X8_fewestWagons ml_X10_238 (by decide) tm_Pack rfl rfl rfl hl.1 rfl (Nat.le_of_ble_eq_true rfl) ⟨Nat.le_of_ble_eq_true rfl, Nat.le_of_ble_eq_true rfl⟩ ⟨Nat.zero_le _, Nat.zero_le _⟩ dX10_wagons_123) hS (fun v0 w0 H locs hp hW hS => ?_)
        obtain ⟨rfl, rfl⟩ := hp
        cases h
        exact rI C hr hlk dX10_wagons_126 hW hS ⟨rfl, rfl⟩
      · rw [if_neg c1006] at h
        refine lv_bipush (v := -2) hx hb dX10_wagons_113 (by decide) ?_
        refine lv_goto (tgt := 126) hx hb dX10_wagons_115 (by decide) ?_
        cases h
        exact rI C hr hlk dX10_wagons_126 hW hS ⟨rfl, rfl⟩
    · rw [if_neg c1001] at h
      refine lv_aload_n hx hb dX10_wagons_41 rfl (lv_at hl 0 rfl) ?_
      refine rGet (k := 0) C hW (by decide) tm_BF rfl inX10 (by decide) fl_X10_10 rfl dX10_wagons_42 ?_
      refine rGetN (k := 6) C hW (wB_lt (r := 0) h05 (by decide)) (tm_Works0 h05) rfl inX9 (by decide) fl_X10_228 rfl dX10_wagons_45 ?_
      refine lv_iload_n hx hb dX10_wagons_48 rfl (lv_at hl 3 rfl) ?_
      have s1010 : vin (z) 100 := Classical.byContradiction fun q9 => by rw [if_neg q9] at h; cases h
      rw [if_pos s1010] at h
      refine rRld (j := 4) C hW (wB_lt h05 (by decide)) (tm_bells h05) rfl s1010 dX10_wagons_49 ?_
      refine lv_astore (lv' := [(4, rf g (wB 0 + (36 + 2 * (z : Int32).toNatClampNeg))), (0, rf g (0)), (1, .int (x)), (2, .int (u)), (3, .int (z))]) hx hb dX10_wagons_50 hl (by decide) rfl (fun ls hl => ?_)
      refine lv_aload hx hb dX10_wagons_52 (lv_at hl 0 rfl) ?_
      obtain ⟨r1011, M1012, h1013, h⟩ := bind2 h
      refine cBack C.2.2.2.2.2.2.2.2 (runV (As := []) (rest := []) C hW hS (c_X0_remains l g M 0 ((z : Int32).toNatClampNeg) h05 (vp_lt s1010) _ _ h1013) kV_X0_remains ml_X10_165 (wB_lt h05 (by have := (vp_lt s1010); omega)) (tm_Bell h05 (vp_lt s1010)) rfl rfl rfl hl.1 rfl (Nat.le_of_ble_eq_true rfl) ⟨Nat.le_of_ble_eq_true rfl, Nat.le_of_ble_eq_true rfl⟩ ⟨Nat.zero_le _, Nat.zero_le _⟩ dX10_wagons_54) hS (fun v0 w0 H locs hp hW hS => ?_)
      obtain ⟨rfl, rfl, zr1011⟩ := hp
      refine lv_if_eq (tgt := 85) hx hb dX10_wagons_57 (by decide) (fun c1014 => ?_) (fun c1014 => ?_)
      · rw [if_pos c1014] at h
        refine lv_iinc (v := z + 1) (lv' := [(3, .int (z + 1)), (4, rf g (wB 0 + (36 + 2 * (z : Int32).toNatClampNeg))), (0, rf g (0)), (1, .int (x)), (2, .int (u))]) hx hb dX10_wagons_85 hl (k := 4) rfl rfl (by decide) rfl (fun ls hl => ?_)
        refine lv_goto (tgt := 30) hx hb dX10_wagons_88 (by decide) ?_
        exact ih M1012 x u (z + 1) h _ _ hW hS ls (lv_sub hl [2, 3, 4, 0] rfl)
      · rw [if_neg c1014] at h
        refine lv_iload_n hx hb dX10_wagons_60 rfl (lv_at hl 2 rfl) ?_
        refine lv_iload_n hx hb dX10_wagons_61 rfl (lv_at hl 3 rfl) ?_
        refine lv_iand hx hb dX10_wagons_62 ?_
        refine lv_if_eq (tgt := 81) hx hb dX10_wagons_63 (by decide) (fun c1015 => ?_) (fun c1015 => ?_)
        · rw [if_pos c1015] at h
          refine lv_iload_n hx hb dX10_wagons_81 rfl (lv_at hl 3 rfl) ?_
          refine lv_iconst (v := 1) hx hb dX10_wagons_82 (by decide) ?_
          refine lv_ishl hx hb dX10_wagons_83 ?_
          refine lv_istore_n (lv' := [(2, .int ((u) <<< ((1) &&& 31))), (4, rf g (wB 0 + (36 + 2 * (z : Int32).toNatClampNeg))), (0, rf g (0)), (1, .int (x)), (3, .int (z))]) hx hb dX10_wagons_84 rfl hl (by decide) rfl (fun ls hl => ?_)
          refine lv_iinc (v := z + 1) (lv' := [(3, .int (z + 1)), (2, .int ((u) <<< ((1) &&& 31))), (4, rf g (wB 0 + (36 + 2 * (z : Int32).toNatClampNeg))), (0, rf g (0)), (1, .int (x))]) hx hb dX10_wagons_85 hl (k := 4) rfl rfl (by decide) rfl (fun ls hl => ?_)
          refine lv_goto (tgt := 30) hx hb dX10_wagons_88 (by decide) ?_
          exact ih M1012 x ((u) <<< ((1) &&& 31)) (z + 1) h _ _ hW hS ls (lv_sub hl [3, 4, 1, 0] rfl)
        · rw [if_neg c1015] at h
          refine lv_aload_n hx hb dX10_wagons_66 rfl (lv_at hl 1 rfl) ?_
          refine rGet (k := 2) C hW (by decide) tm_BF rfl inX10 (by decide) fl_X10_26 rfl dX10_wagons_67 ?_
          refine lv_aload hx hb dX10_wagons_70 (lv_at hl 0 rfl) ?_
          refine rGetN (k := 0) C hW (wB_lt h05 (by have := (vp_lt s1010); omega)) (tm_Bell h05 (vp_lt s1010)) rfl inX0 (by decide) fl_X10_157 rfl dX10_wagons_72 ?_
          obtain ⟨r1016, M1017, h1018, h⟩ := bind2 h
          refine cBack C.2.2.2.2.2.2.2.2 (runV (As := []) (rest := [rf g (1683)]) C hW hS (c_X6_weight l g M1012 (wB 0 + (37 + 2 * (z : Int32).toNatClampNeg)) 0 (54 + 8 * (z : Int32).toNatClampNeg) (MX_bell h05 (vp_lt s1010)) _ _ h1018) kV_X6_weight ml_X10_79 (MX_bell h05 (vp_lt s1010)).lt (MX_bell h05 (vp_lt s1010)).cel rfl rfl rfl hl.1 rfl (Nat.le_of_ble_eq_true rfl) ⟨Nat.le_of_ble_eq_true rfl, Nat.le_of_ble_eq_true rfl⟩ ⟨Nat.zero_le _, Nat.zero_le _⟩ dX10_wagons_75) hS (fun v0 w0 H locs hp hW hS => ?_)
          obtain ⟨rfl, rfl⟩ := hp
          obtain ⟨r1019, M1020, h1021, h⟩ := bind2 h
          refine cBackV C.2.2.2.2.2.2.2.2 (runV (As := [.int (r1016)]) (rest := []) C hW hS (c_X8_add l g M1017 r1016 _ _ h1021) kV_X8_add ml_X10_232 (by decide) tm_Pack rfl rfl rfl hl.1 rfl (Nat.le_of_ble_eq_true rfl) ⟨Nat.le_of_ble_eq_true rfl, Nat.le_of_ble_eq_true rfl⟩ ⟨Nat.zero_le _, Nat.zero_le _⟩ dX10_wagons_78) hS (fun v0 H locs hp hW hS => ?_)
          subst hp
          refine lv_iload_n hx hb dX10_wagons_81 rfl (lv_at hl 3 rfl) ?_
          refine lv_iconst (v := 1) hx hb dX10_wagons_82 (by decide) ?_
          refine lv_ishl hx hb dX10_wagons_83 ?_
          refine lv_istore_n (lv' := [(2, .int ((u) <<< ((1) &&& 31))), (4, rf g (wB 0 + (36 + 2 * (z : Int32).toNatClampNeg))), (0, rf g (0)), (1, .int (x)), (3, .int (z))]) hx hb dX10_wagons_84 rfl hl (by decide) rfl (fun ls hl => ?_)
          refine lv_iinc (v := z + 1) (lv' := [(3, .int (z + 1)), (2, .int ((u) <<< ((1) &&& 31))), (4, rf g (wB 0 + (36 + 2 * (z : Int32).toNatClampNeg))), (0, rf g (0)), (1, .int (x))]) hx hb dX10_wagons_85 hl (k := 4) rfl rfl (by decide) rfl (fun ls hl => ?_)
          refine lv_goto (tgt := 30) hx hb dX10_wagons_88 (by decide) ?_
          exact ih M1020 x ((u) <<< ((1) &&& 31)) (z + 1) h _ _ hW hS ls (lv_sub hl [3, 4, 1, 0] rfl)
set_option maxHeartbeats 4000000 in
set_option maxRecDepth 100000 in
theorem c_X10_wagons (l : Launch) (g : GD) (M : MM) (x : Int32) (r : Int32) (M2 : MM) (h : f_X10_wagons M x = some (r, M2)) : Met l yX10_wagons (wm yX10_wagons cX10_wagons 5 (some .int)) (RM 3 90) (va_Pc [rf g (0), .int (x)] (WDp g M)) (QQ g (fun v w0 => v = .int r ∧ M2 = w0)) 0 0 (AA g) := by
  refine mkM (by decide +kernel) (Nat.le_of_ble_eq_true rfl) ?_
  intro p e s m below meth c C hr hlk hW hS ls hl
  have hl : lv_has ls 5 [(0, rf g (0)), (1, .int (x))] := hl
  have hx := C.1
  have hb := C.2.1
  have hts := C.2.2.2.2.1
  have h05 : (0 : Nat) < 5 := by decide
  unfold f_X10_wagons at h
  refine lv_iload_n hx hb dX10_wagons_0 rfl (lv_at hl 1 rfl) ?_
  refine lv_if_lt (tgt := 17) hx hb dX10_wagons_1 (by decide) (fun c1 => ?_) (fun c1 => ?_)
  · rw [if_pos c1] at h
    refine lv_iconst (v := -1) hx hb dX10_wagons_17 (by decide) ?_
    cases h
    exact rI C hr hlk dX10_wagons_18 hW hS ⟨rfl, rfl⟩
  · rw [if_neg c1] at h
    refine lv_iload_n hx hb dX10_wagons_4 rfl (lv_at hl 1 rfl) ?_
    refine lv_iconst (v := 1) hx hb dX10_wagons_5 (by decide) ?_
    refine lv_aload_n hx hb dX10_wagons_6 rfl (lv_at hl 0 rfl) ?_
    refine rGet (k := 0) C hW (by decide) tm_BF rfl inX10 (by decide) fl_X10_10 rfl dX10_wagons_7 ?_
    obtain ⟨r2, M3, h4, h⟩ := bind2 h
    refine cBack C.2.2.2.2.2.2.2.2 (runV (As := []) (rest := [.int (1), .int (x)]) C hW hS (c_X9_remainingBells l g M 0 h05 _ _ h4) kV_X9_remainingBells ml_X10_138 (wB_lt (r := 0) h05 (by decide)) (tm_Works0 h05) rfl rfl rfl hl.1 rfl (Nat.le_of_ble_eq_true rfl) ⟨Nat.le_of_ble_eq_true rfl, Nat.le_of_ble_eq_true rfl⟩ ⟨Nat.zero_le _, Nat.zero_le _⟩ dX10_wagons_10) hS (fun v0 w0 H locs hp hW hS => ?_)
    obtain ⟨rfl, rfl⟩ := hp
    refine lv_ishl hx hb dX10_wagons_13 ?_
    refine lv_icmp_lt (tgt := 19) hx hb dX10_wagons_14 (by decide) (fun c5 => ?_) (fun c5 => ?_)
    · rw [if_pos c5] at h
      refine lv_aload_n hx hb dX10_wagons_19 rfl (lv_at hl 0 rfl) ?_
      refine rGet (k := 2) C hW (by decide) tm_BF rfl inX10 (by decide) fl_X10_26 rfl dX10_wagons_20 ?_
      obtain ⟨r6, M7, h8, h⟩ := bind2 h
      refine cBackV C.2.2.2.2.2.2.2.2 (runV (As := []) (rest := []) C hW hS (c_X8_clear l g M3  _ _ h8) kV_X8_clear ml_X10_225 (by decide) tm_Pack rfl rfl rfl hl.1 rfl (Nat.le_of_ble_eq_true rfl) ⟨Nat.le_of_ble_eq_true rfl, Nat.le_of_ble_eq_true rfl⟩ ⟨Nat.zero_le _, Nat.zero_le _⟩ dX10_wagons_23) hS (fun v0 H locs hp hW hS => ?_)
      subst hp
      refine lv_iconst (v := 1) hx hb dX10_wagons_26 (by decide) ?_
      refine lv_istore_n (lv' := [(2, .int (1)), (0, rf g (0)), (1, .int (x))]) hx hb dX10_wagons_27 rfl hl (by decide) rfl (fun ls hl => ?_)
      refine lv_iconst (v := 0) hx hb dX10_wagons_28 (by decide) ?_
      refine lv_istore_n (lv' := [(3, .int (0)), (2, .int (1)), (0, rf g (0)), (1, .int (x))]) hx hb dX10_wagons_29 rfl hl (by decide) rfl (fun ls hl => ?_)
      exact t_X10_wagons_30 l g    FU M7 x 1 0 _ _ h C hr hlk _ _ hW hS ls (lv_sub hl [2, 3, 1, 0] rfl)
    · rw [if_neg c5] at h
      refine lv_iconst (v := -1) hx hb dX10_wagons_17 (by decide) ?_
      cases h
      exact rI C hr hlk dX10_wagons_18 hW hS ⟨rfl, rfl⟩
