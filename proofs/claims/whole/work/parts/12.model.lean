def f_X11_in (M : MM) (x : Int32) (y : Int32) (u : Int32) : Option (Int32 × MM) := (if (x : Int32) < (y : Int32) then some (0, M) else (if (u : Int32) < (x : Int32) then some (0, M) else some (1, M)))
set_option maxHeartbeats 4000000 in
set_option maxRecDepth 100000 in
theorem c_X11_in (l : Launch) (g : GD) (M : MM) (x : Int32) (y : Int32) (u : Int32) (r : Int32) (M2 : MM) (h : f_X11_in M x y u = some (r, M2)) : Met l yX11_in (wm yX11_in cX11_in 3 (some .boolean)) (RM 0 0) (va_Pc [.int (x), .int (y), .int (u)] (WDp g M)) (QQ g (fun v w0 => v = .int r ∧ M2 = w0 ∧ (r = 0 ∨ r = 1))) 0 0 (AA g) := by
  refine mkM (by decide +kernel) (Nat.le_of_ble_eq_true rfl) ?_
  intro p e s m below meth c C hr hlk hW hS ls hl
  have hl : lv_has ls 3 [(0, .int (x)), (1, .int (y)), (2, .int (u))] := hl
  have hx := C.1
  have hb := C.2.1
  have hts := C.2.2.2.2.1
  unfold f_X11_in at h
  refine lv_iload_n hx hb dX11_in_0 rfl (lv_at hl 0 rfl) ?_
  refine lv_iload_n hx hb dX11_in_1 rfl (lv_at hl 1 rfl) ?_
  refine lv_icmp_lt (tgt := 14) hx hb dX11_in_2 (by decide) (fun c1 => ?_) (fun c1 => ?_)
  · rw [if_pos c1] at h
    refine lv_iconst (v := 0) hx hb dX11_in_14 (by decide) ?_
    cases h
    exact rZ C hr hlk dX11_in_15 hW hS (nar01 (Or.inl rfl)) ⟨rfl, rfl, (Or.inl rfl)⟩
  · rw [if_neg c1] at h
    refine lv_iload_n hx hb dX11_in_5 rfl (lv_at hl 0 rfl) ?_
    refine lv_iload_n hx hb dX11_in_6 rfl (lv_at hl 2 rfl) ?_
    refine lv_icmp_gt (tgt := 14) hx hb dX11_in_7 (by decide) (fun c2 => ?_) (fun c2 => ?_)
    · rw [if_pos c2] at h
      refine lv_iconst (v := 0) hx hb dX11_in_14 (by decide) ?_
      cases h
      exact rZ C hr hlk dX11_in_15 hW hS (nar01 (Or.inl rfl)) ⟨rfl, rfl, (Or.inl rfl)⟩
    · rw [if_neg c2] at h
      refine lv_iconst (v := 1) hx hb dX11_in_10 (by decide) ?_
      refine lv_goto (tgt := 15) hx hb dX11_in_11 (by decide) ?_
      cases h
      exact rZ C hr hlk dX11_in_15 hW hS (nar01 (Or.inr rfl)) ⟨rfl, rfl, (Or.inr rfl)⟩
def lp_X11_keeps_51 (fu : Nat) (M : MM)  (z : Int32) : Option (Unit × MM) := match fu with
  | 0 => none
  | n + 1 => (if (1254 : Int32) ≤ (z : Int32) then (letB (up2 M 20 3 ((M 20 3) + (1))) fun M2002 => some ((), M2002)) else (if vin (z) 1254 then (if vin (((1254) * (M 20 3)) + (z)) 5016 then (letB (up2 M 22 (((1254) * (M 20 3)) + (z) : Int32).toNatClampNeg (M 21 (z : Int32).toNatClampNeg)) fun M2005 => (lp_X11_keeps_51 n M2005   (z + 1))) else none) else none))
def lp_X11_keeps_10 (fu : Nat) (M : MM)  (z : Int32) : Option (Unit × MM) := match fu with
  | 0 => none
  | n + 1 => (if (3762 : Int32) ≤ (z : Int32) then (letB (up2 M 20 3 ((M 20 3) - (1))) fun M1002 => (lp_X11_keeps_51 FU M1002   0)) else (if vin ((z) + (1254)) 5016 then (if vin (z) 5016 then (letB (up2 M 22 (z : Int32).toNatClampNeg (M 22 ((z) + (1254) : Int32).toNatClampNeg)) fun M1005 => (lp_X11_keeps_10 n M1005   (z + 1))) else none) else none))
def f_X11_keeps (M : MM)  : Option (Unit × MM) := (if (M 20 3 : Int32) = (4 : Int32) then (lp_X11_keeps_10 FU M   0) else (lp_X11_keeps_51 FU M   0))
set_option maxHeartbeats 4000000 in
set_option maxRecDepth 100000 in
theorem t_X11_keeps_51 (l : Launch) (g : GD) {p : Program} {e : Env} {s : State} {m : MethodId} {av : Array Value} {below : List Frame} {meth : Method} {c : Code}  (n : Nat) : ∀ (M : MM) (z : Int32) (r : Unit) (M2 : MM), lp_X11_keeps_51 n M   z = some (r, M2) → CX p s m av c cX11_keeps 2 RX11 g → meth.sig.returnType = none → meth.locks = false → ∀ (H : Heap) (locs : List Loc), Wd g M H → sS g s H locs → ∀ ls : Array Slot, lv_has ls 2 [(0, rf g (1697)), (1, .int (z))] → W p l e (RM 0 0) s m av below meth c H locs 0 0 (MQ below (QV g (fun w0 => M2 = w0)) av s 0 0 (AA g)) (F0 m 51 ls []) := by
  induction n with
  | zero => intro M z r M2 h; cases h
  | succ n ih0 =>
    intro M z r M2 h C hr hlk H locs hW hS ls hl
    have ih : ∀ (M : MM) (z : Int32), lp_X11_keeps_51 n M   z = some (r, M2) → ∀ (H : Heap) (locs : List Loc), Wd g M H → sS g s H locs → ∀ ls : Array Slot, lv_has ls 2 [(0, rf g (1697)), (1, .int (z))] → W p l e (RM 0 0) s m av below meth c H locs 0 0 (MQ below (QV g (fun w0 => M2 = w0)) av s 0 0 (AA g)) (F0 m 51 ls []) := fun M z h H locs hW hS ls hl => ih0 M z r M2 h C hr hlk H locs hW hS ls hl
    unfold lp_X11_keeps_51 at h
    try dsimp only at h
    have hx := C.1
    have hb := C.2.1
    have hts := C.2.2.2.2.1
    refine lv_iload_n hx hb dX11_keeps_51 rfl (lv_at hl 1 rfl) ?_
    refine lv_sipush (v := 1254) hx hb dX11_keeps_52 (by decide) ?_
    refine lv_icmp_ge (tgt := 85) hx hb dX11_keeps_55 (by decide) (fun c2001 => ?_) (fun c2001 => ?_)
    · rw [if_pos c2001] at h
      refine lv_aload_n hx hb dX11_keeps_85 rfl (lv_at hl 0 rfl) ?_
      refine lv_dup hx hb dX11_keeps_86 rfl ?_
      refine rGet (k := 3) C hW (by decide) tm_Model rfl inX11 (by decide) fl_X11_43 rfl dX11_keeps_87 ?_
      refine lv_iconst (v := 1) hx hb dX11_keeps_90 (by decide) ?_
      refine lv_iadd hx hb dX11_keeps_91 ?_
      refine rPut (k := 3) C hW hS (by decide) tm_Model rfl inX11 tyX11_ok nmX11 (by decide) fl_X11_43 rfl (by decide +kernel) (Nat.le_of_ble_eq_true rfl) (upd_Model_kept _) dX11_keeps_92 (fun H locs hW hS => ?_)
      have hW : Wd g (up2 M 20 3 ((M 20 3) + (1))) H := hW
      have h := letE h
      generalize up2 M 20 3 ((M 20 3) + (1)) = M2002 at hW h
      cases h
      exact rV C hr hlk dX11_keeps_95 hW hS rfl
    · rw [if_neg c2001] at h
      refine lv_aload_n hx hb dX11_keeps_58 rfl (lv_at hl 0 rfl) ?_
      refine rGet (k := 1) C hW (by decide) tm_Model rfl inX11 (by decide) fl_X11_13 rfl dX11_keeps_59 ?_
      refine lv_sipush (v := 1254) hx hb dX11_keeps_62 (by decide) ?_
      refine lv_aload_n hx hb dX11_keeps_65 rfl (lv_at hl 0 rfl) ?_
      refine rGet (k := 3) C hW (by decide) tm_Model rfl inX11 (by decide) fl_X11_43 rfl dX11_keeps_66 ?_
      refine lv_imul hx hb dX11_keeps_69 ?_
      refine lv_iload_n hx hb dX11_keeps_70 rfl (lv_at hl 1 rfl) ?_
      refine lv_iadd hx hb dX11_keeps_71 ?_
      refine lv_aload_n hx hb dX11_keeps_72 rfl (lv_at hl 0 rfl) ?_
      refine rGet (k := 0) C hW (by decide) tm_Model rfl inX11 (by decide) fl_X11_7 rfl dX11_keeps_73 ?_
      refine lv_iload_n hx hb dX11_keeps_76 rfl (lv_at hl 1 rfl) ?_
      have s2003 : vin (z) 1254 := Classical.byContradiction fun q9 => by rw [if_neg q9] at h; cases h
      rw [if_pos s2003] at h
      refine rIld C hW (by decide) tm_s s2003 dX11_keeps_77 ?_
      have s2004 : vin (((1254) * (M 20 3)) + (z)) 5016 := Classical.byContradiction fun q9 => by rw [if_neg q9] at h; cases h
      rw [if_pos s2004] at h
      refine rIst (M' := up2 M 22 (((1254) * (M 20 3)) + (z) : Int32).toNatClampNeg (M 21 (z : Int32).toNatClampNeg)) C hW hS (by decide) tm_past s2004 (UPD_G (by decide) rfl (by rw [tm_past, up2_gr])) dX11_keeps_78 (fun H locs hW hS => ?_)
      have hW : Wd g (up2 M 22 (((1254) * (M 20 3)) + (z) : Int32).toNatClampNeg (M 21 (z : Int32).toNatClampNeg)) H := hW
      have h := letE h
      generalize up2 M 22 (((1254) * (M 20 3)) + (z) : Int32).toNatClampNeg (M 21 (z : Int32).toNatClampNeg) = M2005 at hW h
      refine lv_iinc (v := z + 1) (lv' := [(1, .int (z + 1)), (0, rf g (1697))]) hx hb dX11_keeps_79 hl (k := 1) rfl rfl (by decide) rfl (fun ls hl => ?_)
      refine lv_goto (tgt := 51) hx hb dX11_keeps_82 (by decide) ?_
      exact ih M2005 (z + 1) h _ _ hW hS ls (lv_sub hl [1, 0] rfl)
set_option maxHeartbeats 4000000 in
set_option maxRecDepth 100000 in
theorem t_X11_keeps_10 (l : Launch) (g : GD) {p : Program} {e : Env} {s : State} {m : MethodId} {av : Array Value} {below : List Frame} {meth : Method} {c : Code}  (n : Nat) : ∀ (M : MM) (z : Int32) (r : Unit) (M2 : MM), lp_X11_keeps_10 n M   z = some (r, M2) → CX p s m av c cX11_keeps 2 RX11 g → meth.sig.returnType = none → meth.locks = false → ∀ (H : Heap) (locs : List Loc), Wd g M H → sS g s H locs → ∀ ls : Array Slot, lv_has ls 2 [(0, rf g (1697)), (1, .int (z))] → W p l e (RM 0 0) s m av below meth c H locs 0 0 (MQ below (QV g (fun w0 => M2 = w0)) av s 0 0 (AA g)) (F0 m 10 ls []) := by
  induction n with
  | zero => intro M z r M2 h; cases h
  | succ n ih0 =>
    intro M z r M2 h C hr hlk H locs hW hS ls hl
    have ih : ∀ (M : MM) (z : Int32), lp_X11_keeps_10 n M   z = some (r, M2) → ∀ (H : Heap) (locs : List Loc), Wd g M H → sS g s H locs → ∀ ls : Array Slot, lv_has ls 2 [(0, rf g (1697)), (1, .int (z))] → W p l e (RM 0 0) s m av below meth c H locs 0 0 (MQ below (QV g (fun w0 => M2 = w0)) av s 0 0 (AA g)) (F0 m 10 ls []) := fun M z h H locs hW hS ls hl => ih0 M z r M2 h C hr hlk H locs hW hS ls hl
    unfold lp_X11_keeps_10 at h
    try dsimp only at h
    have hx := C.1
    have hb := C.2.1
    have hts := C.2.2.2.2.1
    refine lv_iload_n hx hb dX11_keeps_10 rfl (lv_at hl 1 rfl) ?_
    refine lv_sipush (v := 3762) hx hb dX11_keeps_11 (by decide) ?_
    refine lv_icmp_ge (tgt := 39) hx hb dX11_keeps_14 (by decide) (fun c1001 => ?_) (fun c1001 => ?_)
    · rw [if_pos c1001] at h
      refine lv_aload_n hx hb dX11_keeps_39 rfl (lv_at hl 0 rfl) ?_
      refine lv_dup hx hb dX11_keeps_40 rfl ?_
      refine rGet (k := 3) C hW (by decide) tm_Model rfl inX11 (by decide) fl_X11_43 rfl dX11_keeps_41 ?_
      refine lv_iconst (v := 1) hx hb dX11_keeps_44 (by decide) ?_
      refine lv_isub hx hb dX11_keeps_45 ?_
      refine rPut (k := 3) C hW hS (by decide) tm_Model rfl inX11 tyX11_ok nmX11 (by decide) fl_X11_43 rfl (by decide +kernel) (Nat.le_of_ble_eq_true rfl) (upd_Model_kept _) dX11_keeps_46 (fun H locs hW hS => ?_)
      have hW : Wd g (up2 M 20 3 ((M 20 3) - (1))) H := hW
      have h := letE h
      generalize up2 M 20 3 ((M 20 3) - (1)) = M1002 at hW h
      refine lv_iconst (v := 0) hx hb dX11_keeps_49 (by decide) ?_
      refine lv_istore_n (lv' := [(1, .int (0)), (0, rf g (1697))]) hx hb dX11_keeps_50 rfl hl (by decide) rfl (fun ls hl => ?_)
      exact t_X11_keeps_51 l g    FU M1002 0 _ _ h C hr hlk _ _ hW hS ls (lv_sub hl [1, 0] rfl)
    · rw [if_neg c1001] at h
      refine lv_aload_n hx hb dX11_keeps_17 rfl (lv_at hl 0 rfl) ?_
      refine rGet (k := 1) C hW (by decide) tm_Model rfl inX11 (by decide) fl_X11_13 rfl dX11_keeps_18 ?_
      refine lv_iload_n hx hb dX11_keeps_21 rfl (lv_at hl 1 rfl) ?_
      refine lv_aload_n hx hb dX11_keeps_22 rfl (lv_at hl 0 rfl) ?_
      refine rGet (k := 1) C hW (by decide) tm_Model rfl inX11 (by decide) fl_X11_13 rfl dX11_keeps_23 ?_
      refine lv_iload_n hx hb dX11_keeps_26 rfl (lv_at hl 1 rfl) ?_
      refine lv_sipush (v := 1254) hx hb dX11_keeps_27 (by decide) ?_
      refine lv_iadd hx hb dX11_keeps_30 ?_
      have s1003 : vin ((z) + (1254)) 5016 := Classical.byContradiction fun q9 => by rw [if_neg q9] at h; cases h
      rw [if_pos s1003] at h
      refine rIld C hW (by decide) tm_past s1003 dX11_keeps_31 ?_
      have s1004 : vin (z) 5016 := Classical.byContradiction fun q9 => by rw [if_neg q9] at h; cases h
      rw [if_pos s1004] at h
      refine rIst (M' := up2 M 22 (z : Int32).toNatClampNeg (M 22 ((z) + (1254) : Int32).toNatClampNeg)) C hW hS (by decide) tm_past s1004 (UPD_G (by decide) rfl (by rw [tm_past, up2_gr])) dX11_keeps_32 (fun H locs hW hS => ?_)
      have hW : Wd g (up2 M 22 (z : Int32).toNatClampNeg (M 22 ((z) + (1254) : Int32).toNatClampNeg)) H := hW
      have h := letE h
      generalize up2 M 22 (z : Int32).toNatClampNeg (M 22 ((z) + (1254) : Int32).toNatClampNeg) = M1005 at hW h
      refine lv_iinc (v := z + 1) (lv' := [(1, .int (z + 1)), (0, rf g (1697))]) hx hb dX11_keeps_33 hl (k := 1) rfl rfl (by decide) rfl (fun ls hl => ?_)
      refine lv_goto (tgt := 10) hx hb dX11_keeps_36 (by decide) ?_
      exact ih M1005 (z + 1) h _ _ hW hS ls (lv_sub hl [1, 0] rfl)
set_option maxHeartbeats 4000000 in
set_option maxRecDepth 100000 in
theorem c_X11_keeps (l : Launch) (g : GD) (M : MM)  (r : Unit) (M2 : MM) (h : f_X11_keeps M  = some (r, M2)) : Met l yX11_keeps (wm yX11_keeps cX11_keeps 2 none) (RM 0 0) (va_Pc [rf g (1697)] (WDp g M)) (QV g (fun w0 => M2 = w0)) 0 0 (AA g) := by
  refine mkM (by decide +kernel) (Nat.le_of_ble_eq_true rfl) ?_
  intro p e s m below meth c C hr hlk hW hS ls hl
  have hl : lv_has ls 2 [(0, rf g (1697))] := hl
  have hx := C.1
  have hb := C.2.1
  have hts := C.2.2.2.2.1
  unfold f_X11_keeps at h
  refine lv_aload_n hx hb dX11_keeps_0 rfl (lv_at hl 0 rfl) ?_
  refine rGet (k := 3) C hW (by decide) tm_Model rfl inX11 (by decide) fl_X11_43 rfl dX11_keeps_1 ?_
  refine lv_iconst (v := 4) hx hb dX11_keeps_4 (by decide) ?_
  refine lv_icmp_ne (tgt := 49) hx hb dX11_keeps_5 (by decide) (fun c1 => ?_) (fun c1 => ?_)
  · rw [if_neg c1] at h
    refine lv_iconst (v := 0) hx hb dX11_keeps_49 (by decide) ?_
    refine lv_istore_n (lv' := [(1, .int (0)), (0, rf g (1697))]) hx hb dX11_keeps_50 rfl hl (by decide) rfl (fun ls hl => ?_)
    exact t_X11_keeps_51 l g    FU M 0 _ _ h C hr hlk _ _ hW hS ls (lv_sub hl [1, 0] rfl)
  · rw [if_pos c1] at h
    refine lv_iconst (v := 0) hx hb dX11_keeps_8 (by decide) ?_
    refine lv_istore_n (lv' := [(1, .int (0)), (0, rf g (1697))]) hx hb dX11_keeps_9 rfl hl (by decide) rfl (fun ls hl => ?_)
    exact t_X11_keeps_10 l g    FU M 0 _ _ h C hr hlk _ _ hW hS ls (lv_sub hl [1, 0] rfl)
def lp_X11_laysAside_2 (fu : Nat) (M : MM)  (z : Int32) : Option (Unit × MM) := match fu with
  | 0 => none
  | n + 1 => (if (1254 : Int32) ≤ (z : Int32) then some ((), M) else (if vin (z) 1254 then (if vin (z) 1254 then (letB (up2 M 23 (z : Int32).toNatClampNeg (M 21 (z : Int32).toNatClampNeg)) fun M1004 => (lp_X11_laysAside_2 n M1004   (z + 1))) else none) else none))
def f_X11_laysAside (M : MM)  : Option (Unit × MM) := (lp_X11_laysAside_2 FU M   0)
set_option maxHeartbeats 4000000 in
set_option maxRecDepth 100000 in
theorem t_X11_laysAside_2 (l : Launch) (g : GD) {p : Program} {e : Env} {s : State} {m : MethodId} {av : Array Value} {below : List Frame} {meth : Method} {c : Code}  (n : Nat) : ∀ (M : MM) (z : Int32) (r : Unit) (M2 : MM), lp_X11_laysAside_2 n M   z = some (r, M2) → CX p s m av c cX11_laysAside 2 RX11 g → meth.sig.returnType = none → meth.locks = false → ∀ (H : Heap) (locs : List Loc), Wd g M H → sS g s H locs → ∀ ls : Array Slot, lv_has ls 2 [(0, rf g (1697)), (1, .int (z))] → W p l e (RM 0 0) s m av below meth c H locs 0 0 (MQ below (QV g (fun w0 => M2 = w0)) av s 0 0 (AA g)) (F0 m 2 ls []) := by
  induction n with
  | zero => intro M z r M2 h; cases h
  | succ n ih0 =>
    intro M z r M2 h C hr hlk H locs hW hS ls hl
    have ih : ∀ (M : MM) (z : Int32), lp_X11_laysAside_2 n M   z = some (r, M2) → ∀ (H : Heap) (locs : List Loc), Wd g M H → sS g s H locs → ∀ ls : Array Slot, lv_has ls 2 [(0, rf g (1697)), (1, .int (z))] → W p l e (RM 0 0) s m av below meth c H locs 0 0 (MQ below (QV g (fun w0 => M2 = w0)) av s 0 0 (AA g)) (F0 m 2 ls []) := fun M z h H locs hW hS ls hl => ih0 M z r M2 h C hr hlk H locs hW hS ls hl
    unfold lp_X11_laysAside_2 at h
    try dsimp only at h
    have hx := C.1
    have hb := C.2.1
    have hts := C.2.2.2.2.1
    refine lv_iload_n hx hb dX11_laysAside_2 rfl (lv_at hl 1 rfl) ?_
    refine lv_sipush (v := 1254) hx hb dX11_laysAside_3 (by decide) ?_
    refine lv_icmp_ge (tgt := 27) hx hb dX11_laysAside_6 (by decide) (fun c1001 => ?_) (fun c1001 => ?_)
    · rw [if_pos c1001] at h
      cases h
      exact rV C hr hlk dX11_laysAside_27 hW hS rfl
    · rw [if_neg c1001] at h
      refine lv_aload_n hx hb dX11_laysAside_9 rfl (lv_at hl 0 rfl) ?_
      refine rGet (k := 2) C hW (by decide) tm_Model rfl inX11 (by decide) fl_X11_16 rfl dX11_laysAside_10 ?_
      refine lv_iload_n hx hb dX11_laysAside_13 rfl (lv_at hl 1 rfl) ?_
      refine lv_aload_n hx hb dX11_laysAside_14 rfl (lv_at hl 0 rfl) ?_
      refine rGet (k := 0) C hW (by decide) tm_Model rfl inX11 (by decide) fl_X11_7 rfl dX11_laysAside_15 ?_
      refine lv_iload_n hx hb dX11_laysAside_18 rfl (lv_at hl 1 rfl) ?_
      have s1002 : vin (z) 1254 := Classical.byContradiction fun q9 => by rw [if_neg q9] at h; cases h
      rw [if_pos s1002] at h
      refine rIld C hW (by decide) tm_s s1002 dX11_laysAside_19 ?_
      have s1003 : vin (z) 1254 := Classical.byContradiction fun q9 => by rw [if_neg q9] at h; cases h
      rw [if_pos s1003] at h
      refine rIst (M' := up2 M 23 (z : Int32).toNatClampNeg (M 21 (z : Int32).toNatClampNeg)) C hW hS (by decide) tm_aside s1003 (UPD_G (by decide) rfl (by rw [tm_aside, up2_gr])) dX11_laysAside_20 (fun H locs hW hS => ?_)
      have hW : Wd g (up2 M 23 (z : Int32).toNatClampNeg (M 21 (z : Int32).toNatClampNeg)) H := hW
      have h := letE h
      generalize up2 M 23 (z : Int32).toNatClampNeg (M 21 (z : Int32).toNatClampNeg) = M1004 at hW h
      refine lv_iinc (v := z + 1) (lv' := [(1, .int (z + 1)), (0, rf g (1697))]) hx hb dX11_laysAside_21 hl (k := 1) rfl rfl (by decide) rfl (fun ls hl => ?_)
      refine lv_goto (tgt := 2) hx hb dX11_laysAside_24 (by decide) ?_
      exact ih M1004 (z + 1) h _ _ hW hS ls (lv_sub hl [1, 0] rfl)
set_option maxHeartbeats 4000000 in
set_option maxRecDepth 100000 in
theorem c_X11_laysAside (l : Launch) (g : GD) (M : MM)  (r : Unit) (M2 : MM) (h : f_X11_laysAside M  = some (r, M2)) : Met l yX11_laysAside (wm yX11_laysAside cX11_laysAside 2 none) (RM 0 0) (va_Pc [rf g (1697)] (WDp g M)) (QV g (fun w0 => M2 = w0)) 0 0 (AA g) := by
  refine mkM (by decide +kernel) (Nat.le_of_ble_eq_true rfl) ?_
  intro p e s m below meth c C hr hlk hW hS ls hl
  have hl : lv_has ls 2 [(0, rf g (1697))] := hl
  have hx := C.1
  have hb := C.2.1
  have hts := C.2.2.2.2.1
  unfold f_X11_laysAside at h
  refine lv_iconst (v := 0) hx hb dX11_laysAside_0 (by decide) ?_
  refine lv_istore_n (lv' := [(1, .int (0)), (0, rf g (1697))]) hx hb dX11_laysAside_1 rfl hl (by decide) rfl (fun ls hl => ?_)
  exact t_X11_laysAside_2 l g    FU M 0 _ _ h C hr hlk _ _ hW hS ls (lv_sub hl [1, 0] rfl)
def lp_X11_bringsBack_2 (fu : Nat) (M : MM)  (z : Int32) : Option (Unit × MM) := match fu with
  | 0 => none
  | n + 1 => (if (1254 : Int32) ≤ (z : Int32) then some ((), M) else (if vin (z) 1254 then (if vin (z) 1254 then (letB (up2 M 21 (z : Int32).toNatClampNeg (M 23 (z : Int32).toNatClampNeg)) fun M1004 => (lp_X11_bringsBack_2 n M1004   (z + 1))) else none) else none))
def f_X11_bringsBack (M : MM)  : Option (Unit × MM) := (lp_X11_bringsBack_2 FU M   0)
set_option maxHeartbeats 4000000 in
set_option maxRecDepth 100000 in
theorem t_X11_bringsBack_2 (l : Launch) (g : GD) {p : Program} {e : Env} {s : State} {m : MethodId} {av : Array Value} {below : List Frame} {meth : Method} {c : Code}  (n : Nat) : ∀ (M : MM) (z : Int32) (r : Unit) (M2 : MM), lp_X11_bringsBack_2 n M   z = some (r, M2) → CX p s m av c cX11_bringsBack 2 RX11 g → meth.sig.returnType = none → meth.locks = false → ∀ (H : Heap) (locs : List Loc), Wd g M H → sS g s H locs → ∀ ls : Array Slot, lv_has ls 2 [(0, rf g (1697)), (1, .int (z))] → W p l e (RM 0 0) s m av below meth c H locs 0 0 (MQ below (QV g (fun w0 => M2 = w0)) av s 0 0 (AA g)) (F0 m 2 ls []) := by
  induction n with
  | zero => intro M z r M2 h; cases h
  | succ n ih0 =>
    intro M z r M2 h C hr hlk H locs hW hS ls hl
    have ih : ∀ (M : MM) (z : Int32), lp_X11_bringsBack_2 n M   z = some (r, M2) → ∀ (H : Heap) (locs : List Loc), Wd g M H → sS g s H locs → ∀ ls : Array Slot, lv_has ls 2 [(0, rf g (1697)), (1, .int (z))] → W p l e (RM 0 0) s m av below meth c H locs 0 0 (MQ below (QV g (fun w0 => M2 = w0)) av s 0 0 (AA g)) (F0 m 2 ls []) := fun M z h H locs hW hS ls hl => ih0 M z r M2 h C hr hlk H locs hW hS ls hl
    unfold lp_X11_bringsBack_2 at h
    try dsimp only at h
    have hx := C.1
    have hb := C.2.1
    have hts := C.2.2.2.2.1
    refine lv_iload_n hx hb dX11_bringsBack_2 rfl (lv_at hl 1 rfl) ?_
    refine lv_sipush (v := 1254) hx hb dX11_bringsBack_3 (by decide) ?_
    refine lv_icmp_ge (tgt := 27) hx hb dX11_bringsBack_6 (by decide) (fun c1001 => ?_) (fun c1001 => ?_)
    · rw [if_pos c1001] at h
      cases h
      exact rV C hr hlk dX11_bringsBack_27 hW hS rfl
    · rw [if_neg c1001] at h
      refine lv_aload_n hx hb dX11_bringsBack_9 rfl (lv_at hl 0 rfl) ?_
      refine rGet (k := 0) C hW (by decide) tm_Model rfl inX11 (by decide) fl_X11_7 rfl dX11_bringsBack_10 ?_
      refine lv_iload_n hx hb dX11_bringsBack_13 rfl (lv_at hl 1 rfl) ?_
      refine lv_aload_n hx hb dX11_bringsBack_14 rfl (lv_at hl 0 rfl) ?_
      refine rGet (k := 2) C hW (by decide) tm_Model rfl inX11 (by decide) fl_X11_16 rfl dX11_bringsBack_15 ?_
      refine lv_iload_n hx hb dX11_bringsBack_18 rfl (lv_at hl 1 rfl) ?_
      have s1002 : vin (z) 1254 := Classical.byContradiction fun q9 => by rw [if_neg q9] at h; cases h
      rw [if_pos s1002] at h
      refine rIld C hW (by decide) tm_aside s1002 dX11_bringsBack_19 ?_
      have s1003 : vin (z) 1254 := Classical.byContradiction fun q9 => by rw [if_neg q9] at h; cases h
      rw [if_pos s1003] at h
      refine rIst (M' := up2 M 21 (z : Int32).toNatClampNeg (M 23 (z : Int32).toNatClampNeg)) C hW hS (by decide) tm_s s1003 (UPD_G (by decide) rfl (by rw [tm_s, up2_gr])) dX11_bringsBack_20 (fun H locs hW hS => ?_)
      have hW : Wd g (up2 M 21 (z : Int32).toNatClampNeg (M 23 (z : Int32).toNatClampNeg)) H := hW
      have h := letE h
      generalize up2 M 21 (z : Int32).toNatClampNeg (M 23 (z : Int32).toNatClampNeg) = M1004 at hW h
      refine lv_iinc (v := z + 1) (lv' := [(1, .int (z + 1)), (0, rf g (1697))]) hx hb dX11_bringsBack_21 hl (k := 1) rfl rfl (by decide) rfl (fun ls hl => ?_)
      refine lv_goto (tgt := 2) hx hb dX11_bringsBack_24 (by decide) ?_
      exact ih M1004 (z + 1) h _ _ hW hS ls (lv_sub hl [1, 0] rfl)
set_option maxHeartbeats 4000000 in
set_option maxRecDepth 100000 in
theorem c_X11_bringsBack (l : Launch) (g : GD) (M : MM)  (r : Unit) (M2 : MM) (h : f_X11_bringsBack M  = some (r, M2)) : Met l yX11_bringsBack (wm yX11_bringsBack cX11_bringsBack 2 none) (RM 0 0) (va_Pc [rf g (1697)] (WDp g M)) (QV g (fun w0 => M2 = w0)) 0 0 (AA g) := by
  refine mkM (by decide +kernel) (Nat.le_of_ble_eq_true rfl) ?_
  intro p e s m below meth c C hr hlk hW hS ls hl
  have hl : lv_has ls 2 [(0, rf g (1697))] := hl
  have hx := C.1
  have hb := C.2.1
  have hts := C.2.2.2.2.1
  unfold f_X11_bringsBack at h
  refine lv_iconst (v := 0) hx hb dX11_bringsBack_0 (by decide) ?_
  refine lv_istore_n (lv' := [(1, .int (0)), (0, rf g (1697))]) hx hb dX11_bringsBack_1 rfl hl (by decide) rfl (fun ls hl => ?_)
  exact t_X11_bringsBack_2 l g    FU M 0 _ _ h C hr hlk _ _ hW hS ls (lv_sub hl [1, 0] rfl)
def f_X11_setting (M : MM) (x : Int32) : Option (Int32 × MM) := (if vin ((45) + (x)) 1254 then some (M 21 ((45) + (x) : Int32).toNatClampNeg, M) else none)
set_option maxHeartbeats 4000000 in
set_option maxRecDepth 100000 in
theorem c_X11_setting (l : Launch) (g : GD) (M : MM) (x : Int32) (r : Int32) (M2 : MM) (h : f_X11_setting M x = some (r, M2)) : Met l yX11_setting (wm yX11_setting cX11_setting 2 (some .int)) (RM 0 0) (va_Pc [rf g (1697), .int (x)] (WDp g M)) (QQ g (fun v w0 => v = .int r ∧ M2 = w0)) 0 0 (AA g) := by
  refine mkM (by decide +kernel) (Nat.le_of_ble_eq_true rfl) ?_
  intro p e s m below meth c C hr hlk hW hS ls hl
  have hl : lv_has ls 2 [(0, rf g (1697)), (1, .int (x))] := hl
  have hx := C.1
  have hb := C.2.1
  have hts := C.2.2.2.2.1
  unfold f_X11_setting at h
  refine lv_aload_n hx hb dX11_setting_0 rfl (lv_at hl 0 rfl) ?_
  refine rGet (k := 0) C hW (by decide) tm_Model rfl inX11 (by decide) fl_X11_7 rfl dX11_setting_1 ?_
  refine lv_bipush (v := 45) hx hb dX11_setting_4 (by decide) ?_
  refine lv_iload_n hx hb dX11_setting_6 rfl (lv_at hl 1 rfl) ?_
  refine lv_iadd hx hb dX11_setting_7 ?_
  have s1 : vin ((45) + (x)) 1254 := Classical.byContradiction fun q9 => by rw [if_neg q9] at h; cases h
  rw [if_pos s1] at h
  refine rIld C hW (by decide) tm_s s1 dX11_setting_8 ?_
  cases h
  exact rI C hr hlk dX11_setting_9 hW hS ⟨rfl, rfl⟩
def f_X11_weight (M : MM) (x : Int32) : Option (Int32 × MM) := (if vin (x) 1254 then (if vin ((x) + (1)) 1254 then some ((M 21 (x : Int32).toNatClampNeg) + (M 21 ((x) + (1) : Int32).toNatClampNeg), M) else none) else none)
set_option maxHeartbeats 4000000 in
set_option maxRecDepth 100000 in
theorem c_X11_weight (l : Launch) (g : GD) (M : MM) (x : Int32) (r : Int32) (M2 : MM) (h : f_X11_weight M x = some (r, M2)) : Met l yX11_weight (wm yX11_weight cX11_weight 2 (some .int)) (RM 0 0) (va_Pc [rf g (1697), .int (x)] (WDp g M)) (QQ g (fun v w0 => v = .int r ∧ M2 = w0)) 0 0 (AA g) := by
  refine mkM (by decide +kernel) (Nat.le_of_ble_eq_true rfl) ?_
  intro p e s m below meth c C hr hlk hW hS ls hl
  have hl : lv_has ls 2 [(0, rf g (1697)), (1, .int (x))] := hl
  have hx := C.1
  have hb := C.2.1
  have hts := C.2.2.2.2.1
  unfold f_X11_weight at h
  refine lv_aload_n hx hb dX11_weight_0 rfl (lv_at hl 0 rfl) ?_
  refine rGet (k := 0) C hW (by decide) tm_Model rfl inX11 (by decide) fl_X11_7 rfl dX11_weight_1 ?_
  refine lv_iload_n hx hb dX11_weight_4 rfl (lv_at hl 1 rfl) ?_
  have s1 : vin (x) 1254 := Classical.byContradiction fun q9 => by rw [if_neg q9] at h; cases h
  rw [if_pos s1] at h
  refine rIld C hW (by decide) tm_s s1 dX11_weight_5 ?_
  refine lv_aload_n hx hb dX11_weight_6 rfl (lv_at hl 0 rfl) ?_
  refine rGet (k := 0) C hW (by decide) tm_Model rfl inX11 (by decide) fl_X11_7 rfl dX11_weight_7 ?_
  refine lv_iload_n hx hb dX11_weight_10 rfl (lv_at hl 1 rfl) ?_
  refine lv_iconst (v := 1) hx hb dX11_weight_11 (by decide) ?_
  refine lv_iadd hx hb dX11_weight_12 ?_
  have s2 : vin ((x) + (1)) 1254 := Classical.byContradiction fun q9 => by rw [if_neg q9] at h; cases h
  rw [if_pos s2] at h
  refine rIld C hW (by decide) tm_s s2 dX11_weight_13 ?_
  refine lv_iadd hx hb dX11_weight_14 ?_
  cases h
  exact rI C hr hlk dX11_weight_15 hW hS ⟨rfl, rfl⟩
def f_X11_alloyOf (M : MM) (x : Int32) (y : Int32) : Option (Int32 × MM) := (if ((x) + (y) : Int32) = 0 then some (0, M) else (if (Int32.toInt64 ((x) + (y)) : Int64) = 0 then none else some (Int64.toInt32 (((1000) * (Int32.toInt64 (y))) / (Int32.toInt64 ((x) + (y)))), M)))
set_option maxHeartbeats 4000000 in
set_option maxRecDepth 100000 in
theorem c_X11_alloyOf (l : Launch) (g : GD) (M : MM) (x : Int32) (y : Int32) (r : Int32) (M2 : MM) (h : f_X11_alloyOf M x y = some (r, M2)) : Met l yX11_alloyOf (wm yX11_alloyOf cX11_alloyOf 2 (some .int)) (RM 0 0) (va_Pc [.int (x), .int (y)] (WDp g M)) (QQ g (fun v w0 => v = .int r ∧ M2 = w0)) 0 0 (AA g) := by
  refine mkM (by decide +kernel) (Nat.le_of_ble_eq_true rfl) ?_
  intro p e s m below meth c C hr hlk hW hS ls hl
  have hl : lv_has ls 2 [(0, .int (x)), (1, .int (y))] := hl
  have hx := C.1
  have hb := C.2.1
  have hts := C.2.2.2.2.1
  unfold f_X11_alloyOf at h
  refine lv_iload_n hx hb dX11_alloyOf_0 rfl (lv_at hl 0 rfl) ?_
  refine lv_iload_n hx hb dX11_alloyOf_1 rfl (lv_at hl 1 rfl) ?_
  refine lv_iadd hx hb dX11_alloyOf_2 ?_
  refine lv_if_ne (tgt := 10) hx hb dX11_alloyOf_3 (by decide) (fun c1 => ?_) (fun c1 => ?_)
  · rw [if_neg c1] at h
    refine lv_ldc2 hx hb C.2.2.2.1 (C.2.2.2.2.1 _ kc_X11_47) dX11_alloyOf_10 ?_
    refine lv_iload_n hx hb dX11_alloyOf_13 rfl (lv_at hl 1 rfl) ?_
    refine lv_i2l hx hb dX11_alloyOf_14 rfl ?_
    refine lv_lmul hx hb dX11_alloyOf_15 ?_
    refine lv_iload_n hx hb dX11_alloyOf_16 rfl (lv_at hl 0 rfl) ?_
    refine lv_iload_n hx hb dX11_alloyOf_17 rfl (lv_at hl 1 rfl) ?_
    refine lv_iadd hx hb dX11_alloyOf_18 ?_
    refine lv_i2l hx hb dX11_alloyOf_19 rfl ?_
    have s2 : ¬ ((Int32.toInt64 ((x) + (y)) : Int64) = 0) := fun q9 => by rw [if_pos q9] at h; cases h
    rw [if_neg s2] at h
    refine lv_ldiv hx hb dX11_alloyOf_20 s2 ?_
    refine lv_l2i hx hb dX11_alloyOf_21 rfl ?_
    cases h
    exact rI C hr hlk dX11_alloyOf_22 hW hS ⟨rfl, rfl⟩
  · rw [if_pos c1] at h
    refine lv_iconst (v := 0) hx hb dX11_alloyOf_6 (by decide) ?_
    refine lv_goto (tgt := 22) hx hb dX11_alloyOf_7 (by decide) ?_
    cases h
    exact rI C hr hlk dX11_alloyOf_22 hW hS ⟨rfl, rfl⟩
def f_X11_alloy (M : MM) (x : Int32) : Option (Int32 × MM) := (if vin (x) 1254 then (if vin ((x) + (1)) 1254 then (bnd2 (f_X11_alloyOf M (M 21 (x : Int32).toNatClampNeg) (M 21 ((x) + (1) : Int32).toNatClampNeg)) fun r3 M4 => some (r3, M4)) else none) else none)
set_option maxHeartbeats 4000000 in
set_option maxRecDepth 100000 in
theorem c_X11_alloy (l : Launch) (g : GD) (M : MM) (x : Int32) (r : Int32) (M2 : MM) (h : f_X11_alloy M x = some (r, M2)) : Met l yX11_alloy (wm yX11_alloy cX11_alloy 2 (some .int)) (RM 1 21) (va_Pc [rf g (1697), .int (x)] (WDp g M)) (QQ g (fun v w0 => v = .int r ∧ M2 = w0)) 0 0 (AA g) := by
  refine mkM (by decide +kernel) (Nat.le_of_ble_eq_true rfl) ?_
  intro p e s m below meth c C hr hlk hW hS ls hl
  have hl : lv_has ls 2 [(0, rf g (1697)), (1, .int (x))] := hl
  have hx := C.1
  have hb := C.2.1
  have hts := C.2.2.2.2.1
  unfold f_X11_alloy at h
  refine lv_aload_n hx hb dX11_alloy_0 rfl (lv_at hl 0 rfl) ?_
  refine rGet (k := 0) C hW (by decide) tm_Model rfl inX11 (by decide) fl_X11_7 rfl dX11_alloy_1 ?_
  refine lv_iload_n hx hb dX11_alloy_4 rfl (lv_at hl 1 rfl) ?_
  have s1 : vin (x) 1254 := Classical.byContradiction fun q9 => by rw [if_neg q9] at h; cases h
  rw [if_pos s1] at h
  refine rIld C hW (by decide) tm_s s1 dX11_alloy_5 ?_
  refine lv_aload_n hx hb dX11_alloy_6 rfl (lv_at hl 0 rfl) ?_
  refine rGet (k := 0) C hW (by decide) tm_Model rfl inX11 (by decide) fl_X11_7 rfl dX11_alloy_7 ?_
  refine lv_iload_n hx hb dX11_alloy_10 rfl (lv_at hl 1 rfl) ?_
  refine lv_iconst (v := 1) hx hb dX11_alloy_11 (by decide) ?_
  refine lv_iadd hx hb dX11_alloy_12 ?_
  have s2 : vin ((x) + (1)) 1254 := Classical.byContradiction fun q9 => by rw [if_neg q9] at h; cases h
  rw [if_pos s2] at h
  refine rIld C hW (by decide) tm_s s2 dX11_alloy_13 ?_
  obtain ⟨r3, M4, h5, h⟩ := bind2 h
  refine cBack C.2.2.2.2.2.2.2.2 (runS (As := [.int (M 21 (x : Int32).toNatClampNeg), .int (M 21 ((x) + (1) : Int32).toNatClampNeg)]) (rest := []) C hW hS (c_X11_alloyOf l g M (M 21 (x : Int32).toNatClampNeg) (M 21 ((x) + (1) : Int32).toNatClampNeg) _ _ h5) kS_X11_alloyOf ml_X11_49 rfl hl.1 rfl (Nat.le_of_ble_eq_true rfl) ⟨Nat.le_of_ble_eq_true rfl, Nat.le_of_ble_eq_true rfl⟩ ⟨Nat.zero_le _, Nat.zero_le _⟩ dX11_alloy_14) hS (fun v0 w0 H locs hp hW hS => ?_)
  obtain ⟨rfl, rfl⟩ := hp
  cases h
  exact rI C hr hlk dX11_alloy_17 hW hS ⟨rfl, rfl⟩
def f_X11_copperIn (M : MM) (x : Int32) (y : Int32) (u : Int32) : Option (Int32 × MM) := (if (x : Int32) = 0 then some (0, M) else (if (Int32.toInt64 ((y) + (u)) : Int64) = 0 then none else some (Int64.toInt32 (((Int32.toInt64 (x)) * (Int32.toInt64 (y))) / (Int32.toInt64 ((y) + (u)))), M)))
set_option maxHeartbeats 4000000 in
set_option maxRecDepth 100000 in
theorem c_X11_copperIn (l : Launch) (g : GD) (M : MM) (x : Int32) (y : Int32) (u : Int32) (r : Int32) (M2 : MM) (h : f_X11_copperIn M x y u = some (r, M2)) : Met l yX11_copperIn (wm yX11_copperIn cX11_copperIn 3 (some .int)) (RM 0 0) (va_Pc [.int (x), .int (y), .int (u)] (WDp g M)) (QQ g (fun v w0 => v = .int r ∧ M2 = w0)) 0 0 (AA g) := by
  refine mkM (by decide +kernel) (Nat.le_of_ble_eq_true rfl) ?_
  intro p e s m below meth c C hr hlk hW hS ls hl
  have hl : lv_has ls 3 [(0, .int (x)), (1, .int (y)), (2, .int (u))] := hl
  have hx := C.1
  have hb := C.2.1
  have hts := C.2.2.2.2.1
  unfold f_X11_copperIn at h
  refine lv_iload_n hx hb dX11_copperIn_0 rfl (lv_at hl 0 rfl) ?_
  refine lv_if_ne (tgt := 8) hx hb dX11_copperIn_1 (by decide) (fun c1 => ?_) (fun c1 => ?_)
  · rw [if_neg c1] at h
    refine lv_iload_n hx hb dX11_copperIn_8 rfl (lv_at hl 0 rfl) ?_
    refine lv_i2l hx hb dX11_copperIn_9 rfl ?_
    refine lv_iload_n hx hb dX11_copperIn_10 rfl (lv_at hl 1 rfl) ?_
    refine lv_i2l hx hb dX11_copperIn_11 rfl ?_
    refine lv_lmul hx hb dX11_copperIn_12 ?_
    refine lv_iload_n hx hb dX11_copperIn_13 rfl (lv_at hl 1 rfl) ?_
    refine lv_iload_n hx hb dX11_copperIn_14 rfl (lv_at hl 2 rfl) ?_
    refine lv_iadd hx hb dX11_copperIn_15 ?_
    refine lv_i2l hx hb dX11_copperIn_16 rfl ?_
    have s2 : ¬ ((Int32.toInt64 ((y) + (u)) : Int64) = 0) := fun q9 => by rw [if_pos q9] at h; cases h
    rw [if_neg s2] at h
    refine lv_ldiv hx hb dX11_copperIn_17 s2 ?_
    refine lv_l2i hx hb dX11_copperIn_18 rfl ?_
    cases h
    exact rI C hr hlk dX11_copperIn_19 hW hS ⟨rfl, rfl⟩
  · rw [if_pos c1] at h
    refine lv_iconst (v := 0) hx hb dX11_copperIn_4 (by decide) ?_
    refine lv_goto (tgt := 19) hx hb dX11_copperIn_5 (by decide) ?_
    cases h
    exact rI C hr hlk dX11_copperIn_19 hW hS ⟨rfl, rfl⟩
def f_X11_moves (M : MM) (x : Int32) (y : Int32) (u : Int32) (v : Int32) : Option (Unit × MM) := (if vin (x) 1254 then (if vin (x) 1254 then (letB (up2 M 21 (x : Int32).toNatClampNeg ((M 21 (x : Int32).toNatClampNeg) - (u))) fun M3 => (if vin ((x) + (1)) 1254 then (if vin ((x) + (1)) 1254 then (letB (up2 M3 21 ((x) + (1) : Int32).toNatClampNeg ((M3 21 ((x) + (1) : Int32).toNatClampNeg) - (v))) fun M6 => (if vin (y) 1254 then (if vin (y) 1254 then (letB (up2 M6 21 (y : Int32).toNatClampNeg ((M6 21 (y : Int32).toNatClampNeg) + (u))) fun M9 => (if vin ((y) + (1)) 1254 then (if vin ((y) + (1)) 1254 then (letB (up2 M9 21 ((y) + (1) : Int32).toNatClampNeg ((M9 21 ((y) + (1) : Int32).toNatClampNeg) + (v))) fun M12 => some ((), M12)) else none) else none)) else none) else none)) else none) else none)) else none) else none)
set_option maxHeartbeats 4000000 in
set_option maxRecDepth 100000 in
theorem c_X11_moves (l : Launch) (g : GD) (M : MM) (x : Int32) (y : Int32) (u : Int32) (v : Int32) (r : Unit) (M2 : MM) (h : f_X11_moves M x y u v = some (r, M2)) : Met l yX11_moves (wm yX11_moves cX11_moves 5 none) (RM 0 0) (va_Pc [rf g (1697), .int (x), .int (y), .int (u), .int (v)] (WDp g M)) (QV g (fun w0 => M2 = w0)) 0 0 (AA g) := by
  refine mkM (by decide +kernel) (Nat.le_of_ble_eq_true rfl) ?_
  intro p e s m below meth c C hr hlk hW hS ls hl
  have hl : lv_has ls 5 [(0, rf g (1697)), (1, .int (x)), (2, .int (y)), (3, .int (u)), (4, .int (v))] := hl
  have hx := C.1
  have hb := C.2.1
  have hts := C.2.2.2.2.1
  unfold f_X11_moves at h
  refine lv_aload_n hx hb dX11_moves_0 rfl (lv_at hl 0 rfl) ?_
  refine rGet (k := 0) C hW (by decide) tm_Model rfl inX11 (by decide) fl_X11_7 rfl dX11_moves_1 ?_
  refine lv_iload_n hx hb dX11_moves_4 rfl (lv_at hl 1 rfl) ?_
  refine lv_dup2_11 hx hb dX11_moves_5 rfl rfl ?_
  have s1 : vin (x) 1254 := Classical.byContradiction fun q9 => by rw [if_neg q9] at h; cases h
  rw [if_pos s1] at h
  refine rIld C hW (by decide) tm_s s1 dX11_moves_6 ?_
  refine lv_iload_n hx hb dX11_moves_7 rfl (lv_at hl 3 rfl) ?_
  refine lv_isub hx hb dX11_moves_8 ?_
  have s2 : vin (x) 1254 := Classical.byContradiction fun q9 => by rw [if_neg q9] at h; cases h
  rw [if_pos s2] at h
  refine rIst (M' := up2 M 21 (x : Int32).toNatClampNeg ((M 21 (x : Int32).toNatClampNeg) - (u))) C hW hS (by decide) tm_s s2 (UPD_G (by decide) rfl (by rw [tm_s, up2_gr])) dX11_moves_9 (fun H locs hW hS => ?_)
  have hW : Wd g (up2 M 21 (x : Int32).toNatClampNeg ((M 21 (x : Int32).toNatClampNeg) - (u))) H := hW
  have h := letE h
  generalize up2 M 21 (x : Int32).toNatClampNeg ((M 21 (x : Int32).toNatClampNeg) - (u)) = M3 at hW h
  refine lv_aload_n hx hb dX11_moves_10 rfl (lv_at hl 0 rfl) ?_
  refine rGet (k := 0) C hW (by decide) tm_Model rfl inX11 (by decide) fl_X11_7 rfl dX11_moves_11 ?_
  refine lv_iload_n hx hb dX11_moves_14 rfl (lv_at hl 1 rfl) ?_
  refine lv_iconst (v := 1) hx hb dX11_moves_15 (by decide) ?_
  refine lv_iadd hx hb dX11_moves_16 ?_
  refine lv_dup2_11 hx hb dX11_moves_17 rfl rfl ?_
  have s4 : vin ((x) + (1)) 1254 := Classical.byContradiction fun q9 => by rw [if_neg q9] at h; cases h
  rw [if_pos s4] at h
  refine rIld C hW (by decide) tm_s s4 dX11_moves_18 ?_
  refine lv_iload hx hb dX11_moves_19 (lv_at hl 4 rfl) ?_
  refine lv_isub hx hb dX11_moves_21 ?_
  have s5 : vin ((x) + (1)) 1254 := Classical.byContradiction fun q9 => by rw [if_neg q9] at h; cases h
  rw [if_pos s5] at h
  refine rIst (M' := up2 M3 21 ((x) + (1) : Int32).toNatClampNeg ((M3 21 ((x) + (1) : Int32).toNatClampNeg) - (v))) C hW hS (by decide) tm_s s5 (UPD_G (by decide) rfl (by rw [tm_s, up2_gr])) dX11_moves_22 (fun H locs hW hS => ?_)
  have hW : Wd g (up2 M3 21 ((x) + (1) : Int32).toNatClampNeg ((M3 21 ((x) + (1) : Int32).toNatClampNeg) - (v))) H := hW
  have h := letE h
  generalize up2 M3 21 ((x) + (1) : Int32).toNatClampNeg ((M3 21 ((x) + (1) : Int32).toNatClampNeg) - (v)) = M6 at hW h
  refine lv_aload_n hx hb dX11_moves_23 rfl (lv_at hl 0 rfl) ?_
  refine rGet (k := 0) C hW (by decide) tm_Model rfl inX11 (by decide) fl_X11_7 rfl dX11_moves_24 ?_
  refine lv_iload_n hx hb dX11_moves_27 rfl (lv_at hl 2 rfl) ?_
  refine lv_dup2_11 hx hb dX11_moves_28 rfl rfl ?_
  have s7 : vin (y) 1254 := Classical.byContradiction fun q9 => by rw [if_neg q9] at h; cases h
  rw [if_pos s7] at h
  refine rIld C hW (by decide) tm_s s7 dX11_moves_29 ?_
  refine lv_iload_n hx hb dX11_moves_30 rfl (lv_at hl 3 rfl) ?_
  refine lv_iadd hx hb dX11_moves_31 ?_
  have s8 : vin (y) 1254 := Classical.byContradiction fun q9 => by rw [if_neg q9] at h; cases h
  rw [if_pos s8] at h
  refine rIst (M' := up2 M6 21 (y : Int32).toNatClampNeg ((M6 21 (y : Int32).toNatClampNeg) + (u))) C hW hS (by decide) tm_s s8 (UPD_G (by decide) rfl (by rw [tm_s, up2_gr])) dX11_moves_32 (fun H locs hW hS => ?_)
  have hW : Wd g (up2 M6 21 (y : Int32).toNatClampNeg ((M6 21 (y : Int32).toNatClampNeg) + (u))) H := hW
  have h := letE h
  generalize up2 M6 21 (y : Int32).toNatClampNeg ((M6 21 (y : Int32).toNatClampNeg) + (u)) = M9 at hW h
  refine lv_aload_n hx hb dX11_moves_33 rfl (lv_at hl 0 rfl) ?_
  refine rGet (k := 0) C hW (by decide) tm_Model rfl inX11 (by decide) fl_X11_7 rfl dX11_moves_34 ?_
  refine lv_iload_n hx hb dX11_moves_37 rfl (lv_at hl 2 rfl) ?_
  refine lv_iconst (v := 1) hx hb dX11_moves_38 (by decide) ?_
  refine lv_iadd hx hb dX11_moves_39 ?_
  refine lv_dup2_11 hx hb dX11_moves_40 rfl rfl ?_
  have s10 : vin ((y) + (1)) 1254 := Classical.byContradiction fun q9 => by rw [if_neg q9] at h; cases h
  rw [if_pos s10] at h
  refine rIld C hW (by decide) tm_s s10 dX11_moves_41 ?_
  refine lv_iload hx hb dX11_moves_42 (lv_at hl 4 rfl) ?_
  refine lv_iadd hx hb dX11_moves_44 ?_
  have s11 : vin ((y) + (1)) 1254 := Classical.byContradiction fun q9 => by rw [if_neg q9] at h; cases h
  rw [if_pos s11] at h
  refine rIst (M' := up2 M9 21 ((y) + (1) : Int32).toNatClampNeg ((M9 21 ((y) + (1) : Int32).toNatClampNeg) + (v))) C hW hS (by decide) tm_s s11 (UPD_G (by decide) rfl (by rw [tm_s, up2_gr])) dX11_moves_45 (fun H locs hW hS => ?_)
  have hW : Wd g (up2 M9 21 ((y) + (1) : Int32).toNatClampNeg ((M9 21 ((y) + (1) : Int32).toNatClampNeg) + (v))) H := hW
  have h := letE h
  generalize up2 M9 21 ((y) + (1) : Int32).toNatClampNeg ((M9 21 ((y) + (1) : Int32).toNatClampNeg) + (v)) = M12 at hW h
  cases h
  exact rV C hr hlk dX11_moves_46 hW hS rfl
def f_X11_draws (M : MM) (x : Int32) (y : Int32) (u : Int32) : Option (Unit × MM) := (if vin (x) 1254 then (if vin ((x) + (1)) 1254 then (bnd2 (f_X11_copperIn M u (M 21 (x : Int32).toNatClampNeg) (M 21 ((x) + (1) : Int32).toNatClampNeg)) fun r3 M4 => (bnd2 (f_X11_moves M4 x y r3 ((u) - (r3))) fun r6 M7 => some ((), M7))) else none) else none)
set_option maxHeartbeats 4000000 in
set_option maxRecDepth 100000 in
theorem c_X11_draws (l : Launch) (g : GD) (M : MM) (x : Int32) (y : Int32) (u : Int32) (r : Unit) (M2 : MM) (h : f_X11_draws M x y u = some (r, M2)) : Met l yX11_draws (wm yX11_draws cX11_draws 5 none) (RM 1 24) (va_Pc [rf g (1697), .int (x), .int (y), .int (u)] (WDp g M)) (QV g (fun w0 => M2 = w0)) 0 0 (AA g) := by
  refine mkM (by decide +kernel) (Nat.le_of_ble_eq_true rfl) ?_
  intro p e s m below meth c C hr hlk hW hS ls hl
  have hl : lv_has ls 5 [(0, rf g (1697)), (1, .int (x)), (2, .int (y)), (3, .int (u))] := hl
  have hx := C.1
  have hb := C.2.1
  have hts := C.2.2.2.2.1
  unfold f_X11_draws at h
  refine lv_iload_n hx hb dX11_draws_0 rfl (lv_at hl 3 rfl) ?_
  refine lv_aload_n hx hb dX11_draws_1 rfl (lv_at hl 0 rfl) ?_
  refine rGet (k := 0) C hW (by decide) tm_Model rfl inX11 (by decide) fl_X11_7 rfl dX11_draws_2 ?_
  refine lv_iload_n hx hb dX11_draws_5 rfl (lv_at hl 1 rfl) ?_
  have s1 : vin (x) 1254 := Classical.byContradiction fun q9 => by rw [if_neg q9] at h; cases h
  rw [if_pos s1] at h
  refine rIld C hW (by decide) tm_s s1 dX11_draws_6 ?_
  refine lv_aload_n hx hb dX11_draws_7 rfl (lv_at hl 0 rfl) ?_
  refine rGet (k := 0) C hW (by decide) tm_Model rfl inX11 (by decide) fl_X11_7 rfl dX11_draws_8 ?_
  refine lv_iload_n hx hb dX11_draws_11 rfl (lv_at hl 1 rfl) ?_
  refine lv_iconst (v := 1) hx hb dX11_draws_12 (by decide) ?_
  refine lv_iadd hx hb dX11_draws_13 ?_
  have s2 : vin ((x) + (1)) 1254 := Classical.byContradiction fun q9 => by rw [if_neg q9] at h; cases h
  rw [if_pos s2] at h
  refine rIld C hW (by decide) tm_s s2 dX11_draws_14 ?_
  obtain ⟨r3, M4, h5, h⟩ := bind2 h
  refine cBack C.2.2.2.2.2.2.2.2 (runS (As := [.int (u), .int (M 21 (x : Int32).toNatClampNeg), .int (M 21 ((x) + (1) : Int32).toNatClampNeg)]) (rest := []) C hW hS (c_X11_copperIn l g M u (M 21 (x : Int32).toNatClampNeg) (M 21 ((x) + (1) : Int32).toNatClampNeg) _ _ h5) kS_X11_copperIn ml_X11_53 rfl hl.1 rfl (Nat.le_of_ble_eq_true rfl) ⟨Nat.le_of_ble_eq_true rfl, Nat.le_of_ble_eq_true rfl⟩ ⟨Nat.zero_le _, Nat.zero_le _⟩ dX11_draws_15) hS (fun v0 w0 H locs hp hW hS => ?_)
  obtain ⟨rfl, rfl⟩ := hp
  refine lv_istore (lv' := [(4, .int (r3)), (0, rf g (1697)), (1, .int (x)), (2, .int (y)), (3, .int (u))]) hx hb dX11_draws_18 hl (by decide) rfl (fun ls hl => ?_)
  refine lv_aload_n hx hb dX11_draws_20 rfl (lv_at hl 1 rfl) ?_
  refine lv_iload_n hx hb dX11_draws_21 rfl (lv_at hl 2 rfl) ?_
  refine lv_iload_n hx hb dX11_draws_22 rfl (lv_at hl 3 rfl) ?_
  refine lv_iload hx hb dX11_draws_23 (lv_at hl 0 rfl) ?_
  refine lv_iload_n hx hb dX11_draws_25 rfl (lv_at hl 4 rfl) ?_
  refine lv_iload hx hb dX11_draws_26 (lv_at hl 0 rfl) ?_
  refine lv_isub hx hb dX11_draws_28 ?_
  obtain ⟨r6, M7, h8, h⟩ := bind2 h
  refine cBackV C.2.2.2.2.2.2.2.2 (runV (As := [.int (x), .int (y), .int (r3), .int ((u) - (r3))]) (rest := []) C hW hS (c_X11_moves l g M4 x y r3 ((u) - (r3)) _ _ h8) kV_X11_moves ml_X11_57 (by decide) tm_Model rfl rfl rfl hl.1 rfl (Nat.le_of_ble_eq_true rfl) ⟨Nat.le_of_ble_eq_true rfl, Nat.le_of_ble_eq_true rfl⟩ ⟨Nat.zero_le _, Nat.zero_le _⟩ dX11_draws_29) hS (fun v0 H locs hp hW hS => ?_)
  subst hp
  cases h
  exact rV C hr hlk dX11_draws_32 hW hS rfl
def f_X11_burnt (M : MM) (x : Int32) (y : Int32) : Option (Int32 × MM) := (bnd2 (f_X11_setting M y) fun r1 M2 => some ((((x) * (r1)) + (999)) / (1000), M2))
set_option maxHeartbeats 4000000 in
set_option maxRecDepth 100000 in
theorem c_X11_burnt (l : Launch) (g : GD) (M : MM) (x : Int32) (y : Int32) (r : Int32) (M2 : MM) (h : f_X11_burnt M x y = some (r, M2)) : Met l yX11_burnt (wm yX11_burnt cX11_burnt 3 (some .int)) (RM 1 21) (va_Pc [rf g (1697), .int (x), .int (y)] (WDp g M)) (QQ g (fun v w0 => v = .int r ∧ M2 = w0)) 0 0 (AA g) := by
  refine mkM (by decide +kernel) (Nat.le_of_ble_eq_true rfl) ?_
  intro p e s m below meth c C hr hlk hW hS ls hl
  have hl : lv_has ls 3 [(0, rf g (1697)), (1, .int (x)), (2, .int (y))] := hl
  have hx := C.1
  have hb := C.2.1
  have hts := C.2.2.2.2.1
  unfold f_X11_burnt at h
  refine lv_iload_n hx hb dX11_burnt_0 rfl (lv_at hl 1 rfl) ?_
  refine lv_aload_n hx hb dX11_burnt_1 rfl (lv_at hl 0 rfl) ?_
  refine lv_iload_n hx hb dX11_burnt_2 rfl (lv_at hl 2 rfl) ?_
  obtain ⟨r1, M2, h3, h⟩ := bind2 h
  refine cBack C.2.2.2.2.2.2.2.2 (runV (As := [.int (y)]) (rest := [.int (x)]) C hW hS (c_X11_setting l g M y _ _ h3) kV_X11_setting ml_X11_61 (by decide) tm_Model rfl rfl rfl hl.1 rfl (Nat.le_of_ble_eq_true rfl) ⟨Nat.le_of_ble_eq_true rfl, Nat.le_of_ble_eq_true rfl⟩ ⟨Nat.zero_le _, Nat.zero_le _⟩ dX11_burnt_3) hS (fun v0 w0 H locs hp hW hS => ?_)
  obtain ⟨rfl, rfl⟩ := hp
  refine lv_imul hx hb dX11_burnt_6 ?_
  refine lv_sipush (v := 999) hx hb dX11_burnt_7 (by decide) ?_
  refine lv_iadd hx hb dX11_burnt_10 ?_
  refine lv_sipush (v := 1000) hx hb dX11_burnt_11 (by decide) ?_
  refine lv_idiv hx hb dX11_burnt_14 (by decide) ?_
  cases h
  exact rI C hr hlk dX11_burnt_15 hW hS ⟨rfl, rfl⟩
def f_X11_burns (M : MM) (x : Int32) : Option (Unit × MM) := (if vin (x) 1254 then (bnd2 (f_X11_burnt M (M 21 (x : Int32).toNatClampNeg) 0) fun r2 M3 => (if vin ((x) + (1)) 1254 then (bnd2 (f_X11_burnt M3 (M3 21 ((x) + (1) : Int32).toNatClampNeg) 1) fun r6 M7 => (bnd2 (f_X11_moves M7 x 4 r2 r6) fun r9 M10 => some ((), M10))) else none)) else none)
set_option maxHeartbeats 4000000 in
set_option maxRecDepth 100000 in
theorem c_X11_burns (l : Launch) (g : GD) (M : MM) (x : Int32) (r : Unit) (M2 : MM) (h : f_X11_burns M x = some (r, M2)) : Met l yX11_burns (wm yX11_burns cX11_burns 2 none) (RM 2 43) (va_Pc [rf g (1697), .int (x)] (WDp g M)) (QV g (fun w0 => M2 = w0)) 0 0 (AA g) := by
  refine mkM (by decide +kernel) (Nat.le_of_ble_eq_true rfl) ?_
  intro p e s m below meth c C hr hlk hW hS ls hl
  have hl : lv_has ls 2 [(0, rf g (1697)), (1, .int (x))] := hl
  have hx := C.1
  have hb := C.2.1
  have hts := C.2.2.2.2.1
  unfold f_X11_burns at h
  refine lv_aload_n hx hb dX11_burns_0 rfl (lv_at hl 0 rfl) ?_
  refine lv_iload_n hx hb dX11_burns_1 rfl (lv_at hl 1 rfl) ?_
  refine lv_iconst (v := 4) hx hb dX11_burns_2 (by decide) ?_
  refine lv_aload_n hx hb dX11_burns_3 rfl (lv_at hl 0 rfl) ?_
  refine lv_aload_n hx hb dX11_burns_4 rfl (lv_at hl 0 rfl) ?_
  refine rGet (k := 0) C hW (by decide) tm_Model rfl inX11 (by decide) fl_X11_7 rfl dX11_burns_5 ?_
  refine lv_iload_n hx hb dX11_burns_8 rfl (lv_at hl 1 rfl) ?_
  have s1 : vin (x) 1254 := Classical.byContradiction fun q9 => by rw [if_neg q9] at h; cases h
  rw [if_pos s1] at h
  refine rIld C hW (by decide) tm_s s1 dX11_burns_9 ?_
  refine lv_iconst (v := 0) hx hb dX11_burns_10 (by decide) ?_
  obtain ⟨r2, M3, h4, h⟩ := bind2 h
  refine cBack C.2.2.2.2.2.2.2.2 (runV (As := [.int (M 21 (x : Int32).toNatClampNeg), .int (0)]) (rest := [.int (4), .int (x), rf g (1697)]) C hW hS (c_X11_burnt l g M (M 21 (x : Int32).toNatClampNeg) 0 _ _ h4) kV_X11_burnt ml_X11_65 (by decide) tm_Model rfl rfl rfl hl.1 rfl (Nat.le_of_ble_eq_true rfl) ⟨Nat.le_of_ble_eq_true rfl, Nat.le_of_ble_eq_true rfl⟩ ⟨Nat.zero_le _, Nat.zero_le _⟩ dX11_burns_11) hS (fun v0 w0 H locs hp hW hS => ?_)
  obtain ⟨rfl, rfl⟩ := hp
  refine lv_aload_n hx hb dX11_burns_14 rfl (lv_at hl 0 rfl) ?_
  refine lv_aload_n hx hb dX11_burns_15 rfl (lv_at hl 0 rfl) ?_
  refine rGet (k := 0) C hW (by decide) tm_Model rfl inX11 (by decide) fl_X11_7 rfl dX11_burns_16 ?_
  refine lv_iload_n hx hb dX11_burns_19 rfl (lv_at hl 1 rfl) ?_
  refine lv_iconst (v := 1) hx hb dX11_burns_20 (by decide) ?_
  refine lv_iadd hx hb dX11_burns_21 ?_
  have s5 : vin ((x) + (1)) 1254 := Classical.byContradiction fun q9 => by rw [if_neg q9] at h; cases h
  rw [if_pos s5] at h
  refine rIld C hW (by decide) tm_s s5 dX11_burns_22 ?_
  refine lv_iconst (v := 1) hx hb dX11_burns_23 (by decide) ?_
  obtain ⟨r6, M7, h8, h⟩ := bind2 h
  refine cBack C.2.2.2.2.2.2.2.2 (runV (As := [.int (M3 21 ((x) + (1) : Int32).toNatClampNeg), .int (1)]) (rest := [.int (r2), .int (4), .int (x), rf g (1697)]) C hW hS (c_X11_burnt l g M3 (M3 21 ((x) + (1) : Int32).toNatClampNeg) 1 _ _ h8) kV_X11_burnt ml_X11_65 (by decide) tm_Model rfl rfl rfl hl.1 rfl (Nat.le_of_ble_eq_true rfl) ⟨Nat.le_of_ble_eq_true rfl, Nat.le_of_ble_eq_true rfl⟩ ⟨Nat.zero_le _, Nat.zero_le _⟩ dX11_burns_24) hS (fun v0 w0 H locs hp hW hS => ?_)
  obtain ⟨rfl, rfl⟩ := hp
  obtain ⟨r9, M10, h11, h⟩ := bind2 h
  refine cBackV C.2.2.2.2.2.2.2.2 (runV (As := [.int (x), .int (4), .int (r2), .int (r6)]) (rest := []) C hW hS (c_X11_moves l g M7 x 4 r2 r6 _ _ h11) kV_X11_moves ml_X11_57 (by decide) tm_Model rfl rfl rfl hl.1 rfl (Nat.le_of_ble_eq_true rfl) ⟨Nat.le_of_ble_eq_true rfl, Nat.le_of_ble_eq_true rfl⟩ ⟨Nat.zero_le _, Nat.zero_le _⟩ dX11_burns_27) hS (fun v0 H locs hp hW hS => ?_)
  subst hp
  cases h
  exact rV C hr hlk dX11_burns_30 hW hS rfl
def f_X11_isLot (M : MM) (x : Int32) : Option (Int32 × MM) := (if vin (8) 1254 then (bnd2 (f_X11_in M x 0 ((M 21 (8 : Int32).toNatClampNeg) - (1))) fun r2 M3 => some (r2, M3)) else none)
set_option maxHeartbeats 4000000 in
set_option maxRecDepth 100000 in
theorem c_X11_isLot (l : Launch) (g : GD) (M : MM) (x : Int32) (r : Int32) (M2 : MM) (h : f_X11_isLot M x = some (r, M2)) : Met l yX11_isLot (wm yX11_isLot cX11_isLot 2 (some .boolean)) (RM 1 22) (va_Pc [rf g (1697), .int (x)] (WDp g M)) (QQ g (fun v w0 => v = .int r ∧ M2 = w0 ∧ (r = 0 ∨ r = 1))) 0 0 (AA g) := by
  refine mkM (by decide +kernel) (Nat.le_of_ble_eq_true rfl) ?_
  intro p e s m below meth c C hr hlk hW hS ls hl
  have hl : lv_has ls 2 [(0, rf g (1697)), (1, .int (x))] := hl
  have hx := C.1
  have hb := C.2.1
  have hts := C.2.2.2.2.1
  unfold f_X11_isLot at h
  refine lv_iload_n hx hb dX11_isLot_0 rfl (lv_at hl 1 rfl) ?_
  refine lv_iconst (v := 0) hx hb dX11_isLot_1 (by decide) ?_
  refine lv_aload_n hx hb dX11_isLot_2 rfl (lv_at hl 0 rfl) ?_
  refine rGet (k := 0) C hW (by decide) tm_Model rfl inX11 (by decide) fl_X11_7 rfl dX11_isLot_3 ?_
  refine lv_bipush (v := 8) hx hb dX11_isLot_6 (by decide) ?_
  have s1 : vin (8) 1254 := Classical.byContradiction fun q9 => by rw [if_neg q9] at h; cases h
  rw [if_pos s1] at h
  refine rIld C hW (by decide) tm_s s1 dX11_isLot_8 ?_
  refine lv_iconst (v := 1) hx hb dX11_isLot_9 (by decide) ?_
  refine lv_isub hx hb dX11_isLot_10 ?_
  obtain ⟨r2, M3, h4, h⟩ := bind2 h
  refine cBack C.2.2.2.2.2.2.2.2 (runS (As := [.int (x), .int (0), .int ((M 21 (8 : Int32).toNatClampNeg) - (1))]) (rest := []) C hW hS (c_X11_in l g M x 0 ((M 21 (8 : Int32).toNatClampNeg) - (1)) _ _ h4) kS_X11_in ml_X11_68 rfl hl.1 rfl (Nat.le_of_ble_eq_true rfl) ⟨Nat.le_of_ble_eq_true rfl, Nat.le_of_ble_eq_true rfl⟩ ⟨Nat.zero_le _, Nat.zero_le _⟩ dX11_isLot_11) hS (fun v0 w0 H locs hp hW hS => ?_)
  obtain ⟨rfl, rfl, zr2⟩ := hp
  cases h
  exact rZ C hr hlk dX11_isLot_14 hW hS (nar01 zr2) ⟨rfl, rfl, zr2⟩
def f_X11_comes (M : MM) (x : Int32) : Option (Int32 × MM) := (if vin (8) 1254 then (if (M 21 (8 : Int32).toNatClampNeg : Int32) = (12 : Int32) then some (42, M) else (if vin (8) 1254 then (if vin (8) 1254 then (if vin (8) 1254 then (letB (up2 M 21 (8 : Int32).toNatClampNeg ((M 21 (8 : Int32).toNatClampNeg) + (1))) fun M6 => (if vin ((9) + ((3) * (M 21 (8 : Int32).toNatClampNeg))) 1254 then (letB (up2 M6 21 ((9) + ((3) * (M 21 (8 : Int32).toNatClampNeg)) : Int32).toNatClampNeg (0)) fun M8 => (if vin (((9) + ((3) * (M 21 (8 : Int32).toNatClampNeg))) + (1)) 1254 then (letB (up2 M8 21 (((9) + ((3) * (M 21 (8 : Int32).toNatClampNeg))) + (1) : Int32).toNatClampNeg (0)) fun M10 => (if vin (((9) + ((3) * (M 21 (8 : Int32).toNatClampNeg))) + (2)) 1254 then (letB (up2 M10 21 (((9) + ((3) * (M 21 (8 : Int32).toNatClampNeg))) + (2) : Int32).toNatClampNeg (x)) fun M12 => some ((9) + ((3) * (M 21 (8 : Int32).toNatClampNeg)), M12)) else none)) else none)) else none)) else none) else none) else none)) else none)
set_option maxHeartbeats 4000000 in
set_option maxRecDepth 100000 in
theorem c_X11_comes (l : Launch) (g : GD) (M : MM) (x : Int32) (r : Int32) (M2 : MM) (h : f_X11_comes M x = some (r, M2)) : Met l yX11_comes (wm yX11_comes cX11_comes 3 (some .int)) (RM 0 0) (va_Pc [rf g (1697), .int (x)] (WDp g M)) (QQ g (fun v w0 => v = .int r ∧ M2 = w0)) 0 0 (AA g) := by
  refine mkM (by decide +kernel) (Nat.le_of_ble_eq_true rfl) ?_
  intro p e s m below meth c C hr hlk hW hS ls hl
  have hl : lv_has ls 3 [(0, rf g (1697)), (1, .int (x))] := hl
  have hx := C.1
  have hb := C.2.1
  have hts := C.2.2.2.2.1
  unfold f_X11_comes at h
  refine lv_aload_n hx hb dX11_comes_0 rfl (lv_at hl 0 rfl) ?_
  refine rGet (k := 0) C hW (by decide) tm_Model rfl inX11 (by decide) fl_X11_7 rfl dX11_comes_1 ?_
  refine lv_bipush (v := 8) hx hb dX11_comes_4 (by decide) ?_
  have s1 : vin (8) 1254 := Classical.byContradiction fun q9 => by rw [if_neg q9] at h; cases h
  rw [if_pos s1] at h
  refine rIld C hW (by decide) tm_s s1 dX11_comes_6 ?_
  refine lv_bipush (v := 12) hx hb dX11_comes_7 (by decide) ?_
  refine lv_icmp_ne (tgt := 15) hx hb dX11_comes_9 (by decide) (fun c2 => ?_) (fun c2 => ?_)
  · rw [if_neg c2] at h
    refine lv_bipush (v := 9) hx hb dX11_comes_15 (by decide) ?_
    refine lv_iconst (v := 3) hx hb dX11_comes_17 (by decide) ?_
    refine lv_aload_n hx hb dX11_comes_18 rfl (lv_at hl 0 rfl) ?_
    refine rGet (k := 0) C hW (by decide) tm_Model rfl inX11 (by decide) fl_X11_7 rfl dX11_comes_19 ?_
    refine lv_bipush (v := 8) hx hb dX11_comes_22 (by decide) ?_
    have s3 : vin (8) 1254 := Classical.byContradiction fun q9 => by rw [if_neg q9] at h; cases h
    rw [if_pos s3] at h
    refine rIld C hW (by decide) tm_s s3 dX11_comes_24 ?_
    refine lv_imul hx hb dX11_comes_25 ?_
    refine lv_iadd hx hb dX11_comes_26 ?_
    refine lv_istore_n (lv' := [(2, .int ((9) + ((3) * (M 21 (8 : Int32).toNatClampNeg)))), (0, rf g (1697)), (1, .int (x))]) hx hb dX11_comes_27 rfl hl (by decide) rfl (fun ls hl => ?_)
    refine lv_aload_n hx hb dX11_comes_28 rfl (lv_at hl 1 rfl) ?_
    refine rGet (k := 0) C hW (by decide) tm_Model rfl inX11 (by decide) fl_X11_7 rfl dX11_comes_29 ?_
    refine lv_bipush (v := 8) hx hb dX11_comes_32 (by decide) ?_
    refine lv_dup2_11 hx hb dX11_comes_34 rfl rfl ?_
    have s4 : vin (8) 1254 := Classical.byContradiction fun q9 => by rw [if_neg q9] at h; cases h
    rw [if_pos s4] at h
    refine rIld C hW (by decide) tm_s s4 dX11_comes_35 ?_
    refine lv_iconst (v := 1) hx hb dX11_comes_36 (by decide) ?_
    refine lv_iadd hx hb dX11_comes_37 ?_
    have s5 : vin (8) 1254 := Classical.byContradiction fun q9 => by rw [if_neg q9] at h; cases h
    rw [if_pos s5] at h
    refine rIst (M' := up2 M 21 (8 : Int32).toNatClampNeg ((M 21 (8 : Int32).toNatClampNeg) + (1))) C hW hS (by decide) tm_s s5 (UPD_G (by decide) rfl (by rw [tm_s, up2_gr])) dX11_comes_38 (fun H locs hW hS => ?_)
    have hW : Wd g (up2 M 21 (8 : Int32).toNatClampNeg ((M 21 (8 : Int32).toNatClampNeg) + (1))) H := hW
    have h := letE h
    generalize up2 M 21 (8 : Int32).toNatClampNeg ((M 21 (8 : Int32).toNatClampNeg) + (1)) = M6 at hW h
    refine lv_aload_n hx hb dX11_comes_39 rfl (lv_at hl 1 rfl) ?_
    refine rGet (k := 0) C hW (by decide) tm_Model rfl inX11 (by decide) fl_X11_7 rfl dX11_comes_40 ?_
    refine lv_iload_n hx hb dX11_comes_43 rfl (lv_at hl 0 rfl) ?_
    refine lv_iconst (v := 0) hx hb dX11_comes_44 (by decide) ?_
    have s7 : vin ((9) + ((3) * (M 21 (8 : Int32).toNatClampNeg))) 1254 := Classical.byContradiction fun q9 => by rw [if_neg q9] at h; cases h
    rw [if_pos s7] at h
    refine rIst (M' := up2 M6 21 ((9) + ((3) * (M 21 (8 : Int32).toNatClampNeg)) : Int32).toNatClampNeg (0)) C hW hS (by decide) tm_s s7 (UPD_G (by decide) rfl (by rw [tm_s, up2_gr])) dX11_comes_45 (fun H locs hW hS => ?_)
    have hW : Wd g (up2 M6 21 ((9) + ((3) * (M 21 (8 : Int32).toNatClampNeg)) : Int32).toNatClampNeg (0)) H := hW
    have h := letE h
    generalize up2 M6 21 ((9) + ((3) * (M 21 (8 : Int32).toNatClampNeg)) : Int32).toNatClampNeg (0) = M8 at hW h
    refine lv_aload_n hx hb dX11_comes_46 rfl (lv_at hl 1 rfl) ?_
    refine rGet (k := 0) C hW (by decide) tm_Model rfl inX11 (by decide) fl_X11_7 rfl dX11_comes_47 ?_
    refine lv_iload_n hx hb dX11_comes_50 rfl (lv_at hl 0 rfl) ?_
    refine lv_iconst (v := 1) hx hb dX11_comes_51 (by decide) ?_
    refine lv_iadd hx hb dX11_comes_52 ?_
    refine lv_iconst (v := 0) hx hb dX11_comes_53 (by decide) ?_
    have s9 : vin (((9) + ((3) * (M 21 (8 : Int32).toNatClampNeg))) + (1)) 1254 := Classical.byContradiction fun q9 => by rw [if_neg q9] at h; cases h
    rw [if_pos s9] at h
    refine rIst (M' := up2 M8 21 (((9) + ((3) * (M 21 (8 : Int32).toNatClampNeg))) + (1) : Int32).toNatClampNeg (0)) C hW hS (by decide) tm_s s9 (UPD_G (by decide) rfl (by rw [tm_s, up2_gr])) dX11_comes_54 (fun H locs hW hS => ?_)
    have hW : Wd g (up2 M8 21 (((9) + ((3) * (M 21 (8 : Int32).toNatClampNeg))) + (1) : Int32).toNatClampNeg (0)) H := hW
    have h := letE h
    generalize up2 M8 21 (((9) + ((3) * (M 21 (8 : Int32).toNatClampNeg))) + (1) : Int32).toNatClampNeg (0) = M10 at hW h
    refine lv_aload_n hx hb dX11_comes_55 rfl (lv_at hl 1 rfl) ?_
    refine rGet (k := 0) C hW (by decide) tm_Model rfl inX11 (by decide) fl_X11_7 rfl dX11_comes_56 ?_
    refine lv_iload_n hx hb dX11_comes_59 rfl (lv_at hl 0 rfl) ?_
    refine lv_iconst (v := 2) hx hb dX11_comes_60 (by decide) ?_
    refine lv_iadd hx hb dX11_comes_61 ?_
    refine lv_iload_n hx hb dX11_comes_62 rfl (lv_at hl 2 rfl) ?_
    have s11 : vin (((9) + ((3) * (M 21 (8 : Int32).toNatClampNeg))) + (2)) 1254 := Classical.byContradiction fun q9 => by rw [if_neg q9] at h; cases h
    rw [if_pos s11] at h
    refine rIst (M' := up2 M10 21 (((9) + ((3) * (M 21 (8 : Int32).toNatClampNeg))) + (2) : Int32).toNatClampNeg (x)) C hW hS (by decide) tm_s s11 (UPD_G (by decide) rfl (by rw [tm_s, up2_gr])) dX11_comes_63 (fun H locs hW hS => ?_)
    have hW : Wd g (up2 M10 21 (((9) + ((3) * (M 21 (8 : Int32).toNatClampNeg))) + (2) : Int32).toNatClampNeg (x)) H := hW
    have h := letE h
    generalize up2 M10 21 (((9) + ((3) * (M 21 (8 : Int32).toNatClampNeg))) + (2) : Int32).toNatClampNeg (x) = M12 at hW h
    refine lv_iload_n hx hb dX11_comes_64 rfl (lv_at hl 0 rfl) ?_
    cases h
    exact rI C hr hlk dX11_comes_65 hW hS ⟨rfl, rfl⟩
  · rw [if_pos c2] at h
    refine lv_bipush (v := 42) hx hb dX11_comes_12 (by decide) ?_
    cases h
    exact rI C hr hlk dX11_comes_14 hW hS ⟨rfl, rfl⟩
def f_X11_scraps (M : MM) (x : Int32) (y : Int32) (u : Int32) : Option (Unit × MM) := (if (y : Int32) ≤ 0 then some ((), M) else (bnd2 (f_X11_comes M u) fun r2 M3 => (bnd2 (f_X11_draws M3 x r2 y) fun r5 M6 => some ((), M6))))
set_option maxHeartbeats 4000000 in
set_option maxRecDepth 100000 in
theorem c_X11_scraps (l : Launch) (g : GD) (M : MM) (x : Int32) (y : Int32) (u : Int32) (r : Unit) (M2 : MM) (h : f_X11_scraps M x y u = some (r, M2)) : Met l yX11_scraps (wm yX11_scraps cX11_scraps 4 none) (RM 2 48) (va_Pc [rf g (1697), .int (x), .int (y), .int (u)] (WDp g M)) (QV g (fun w0 => M2 = w0)) 0 0 (AA g) := by
  refine mkM (by decide +kernel) (Nat.le_of_ble_eq_true rfl) ?_
  intro p e s m below meth c C hr hlk hW hS ls hl
  have hl : lv_has ls 4 [(0, rf g (1697)), (1, .int (x)), (2, .int (y)), (3, .int (u))] := hl
  have hx := C.1
  have hb := C.2.1
  have hts := C.2.2.2.2.1
  unfold f_X11_scraps at h
  refine lv_iload_n hx hb dX11_scraps_0 rfl (lv_at hl 2 rfl) ?_
  refine lv_if_le (tgt := 15) hx hb dX11_scraps_1 (by decide) (fun c1 => ?_) (fun c1 => ?_)
  · rw [if_pos c1] at h
    cases h
    exact rV C hr hlk dX11_scraps_15 hW hS rfl
  · rw [if_neg c1] at h
    refine lv_aload_n hx hb dX11_scraps_4 rfl (lv_at hl 0 rfl) ?_
    refine lv_iload_n hx hb dX11_scraps_5 rfl (lv_at hl 1 rfl) ?_
    refine lv_aload_n hx hb dX11_scraps_6 rfl (lv_at hl 0 rfl) ?_
    refine lv_iload_n hx hb dX11_scraps_7 rfl (lv_at hl 3 rfl) ?_
    obtain ⟨r2, M3, h4, h⟩ := bind2 h
    refine cBack C.2.2.2.2.2.2.2.2 (runV (As := [.int (u)]) (rest := [.int (x), rf g (1697)]) C hW hS (c_X11_comes l g M u _ _ h4) kV_X11_comes ml_X11_72 (by decide) tm_Model rfl rfl rfl hl.1 rfl (Nat.le_of_ble_eq_true rfl) ⟨Nat.le_of_ble_eq_true rfl, Nat.le_of_ble_eq_true rfl⟩ ⟨Nat.zero_le _, Nat.zero_le _⟩ dX11_scraps_8) hS (fun v0 w0 H locs hp hW hS => ?_)
    obtain ⟨rfl, rfl⟩ := hp
    refine lv_iload_n hx hb dX11_scraps_11 rfl (lv_at hl 2 rfl) ?_
    obtain ⟨r5, M6, h7, h⟩ := bind2 h
    refine cBackV C.2.2.2.2.2.2.2.2 (runV (As := [.int (x), .int (r2), .int (y)]) (rest := []) C hW hS (c_X11_draws l g M3 x r2 y _ _ h7) kV_X11_draws ml_X11_75 (by decide) tm_Model rfl rfl rfl hl.1 rfl (Nat.le_of_ble_eq_true rfl) ⟨Nat.le_of_ble_eq_true rfl, Nat.le_of_ble_eq_true rfl⟩ ⟨Nat.zero_le _, Nat.zero_le _⟩ dX11_scraps_12) hS (fun v0 H locs hp hW hS => ?_)
    subst hp
    cases h
    exact rV C hr hlk dX11_scraps_15 hW hS rfl
def f_X11_isMetal (M : MM) (x : Int32) : Option (Int32 × MM) := (bnd2 (f_X11_in M x 0 1) fun r1 M2 => some (r1, M2))
set_option maxHeartbeats 4000000 in
set_option maxRecDepth 100000 in
theorem c_X11_isMetal (l : Launch) (g : GD) (M : MM) (x : Int32) (r : Int32) (M2 : MM) (h : f_X11_isMetal M x = some (r, M2)) : Met l yX11_isMetal (wm yX11_isMetal cX11_isMetal 1 (some .boolean)) (RM 1 22) (va_Pc [.int (x)] (WDp g M)) (QQ g (fun v w0 => v = .int r ∧ M2 = w0 ∧ (r = 0 ∨ r = 1))) 0 0 (AA g) := by
  refine mkM (by decide +kernel) (Nat.le_of_ble_eq_true rfl) ?_
  intro p e s m below meth c C hr hlk hW hS ls hl
  have hl : lv_has ls 1 [(0, .int (x))] := hl
  have hx := C.1
  have hb := C.2.1
  have hts := C.2.2.2.2.1
  unfold f_X11_isMetal at h
  refine lv_iload_n hx hb dX11_isMetal_0 rfl (lv_at hl 0 rfl) ?_
  refine lv_iconst (v := 0) hx hb dX11_isMetal_1 (by decide) ?_
  refine lv_iconst (v := 1) hx hb dX11_isMetal_2 (by decide) ?_
  obtain ⟨r1, M2, h3, h⟩ := bind2 h
  refine cBack C.2.2.2.2.2.2.2.2 (runS (As := [.int (x), .int (0), .int (1)]) (rest := []) C hW hS (c_X11_in l g M x 0 1 _ _ h3) kS_X11_in ml_X11_68 rfl hl.1 rfl (Nat.le_of_ble_eq_true rfl) ⟨Nat.le_of_ble_eq_true rfl, Nat.le_of_ble_eq_true rfl⟩ ⟨Nat.zero_le _, Nat.zero_le _⟩ dX11_isMetal_3) hS (fun v0 w0 H locs hp hW hS => ?_)
  obtain ⟨rfl, rfl, zr1⟩ := hp
  cases h
  exact rZ C hr hlk dX11_isMetal_6 hW hS (nar01 zr1) ⟨rfl, rfl, zr1⟩
def f_X11_buy (M : MM) (x : Int32) (y : Int32) : Option (Int32 × MM) := (bnd2 (f_X11_isMetal M x) fun r1 M2 => (if (r1 : Int32) = 0 then some (-1, M2) else (bnd2 (f_X11_in M2 y 1 100000) fun r5 M6 => (if (r5 : Int32) = 0 then some (-1, M6) else (if vin ((0) + (x)) 1254 then (if ((M6 21 ((0) + (x) : Int32).toNatClampNeg) + (y) : Int32) ≤ (1000000 : Int32) then (bnd2 (f_X11_keeps M6 ) fun r11 M12 => (if vin ((0) + (x)) 1254 then (if vin ((0) + (x)) 1254 then (letB (up2 M12 21 ((0) + (x) : Int32).toNatClampNeg ((M12 21 ((0) + (x) : Int32).toNatClampNeg) + (y))) fun M16 => (if vin ((2) + (x)) 1254 then (if vin ((2) + (x)) 1254 then (letB (up2 M16 21 ((2) + (x) : Int32).toNatClampNeg ((M16 21 ((2) + (x) : Int32).toNatClampNeg) + (y))) fun M19 => (if vin ((0) + (x)) 1254 then some (M19 21 ((0) + (x) : Int32).toNatClampNeg, M19) else none)) else none) else none)) else none) else none)) else some (-3, M6)) else none)))))
set_option maxHeartbeats 4000000 in
set_option maxRecDepth 100000 in
theorem c_X11_buy (l : Launch) (g : GD) (M : MM) (x : Int32) (y : Int32) (r : Int32) (M2 : MM) (h : f_X11_buy M x y = some (r, M2)) : Met l yX11_buy (wm yX11_buy cX11_buy 3 (some .int)) (RM 2 42) (va_Pc [rf g (1697), .int (x), .int (y)] (WDp g M)) (QQ g (fun v w0 => v = .int r ∧ M2 = w0)) 0 0 (AA g) := by
  refine mkM (by decide +kernel) (Nat.le_of_ble_eq_true rfl) ?_
  intro p e s m below meth c C hr hlk hW hS ls hl
  have hl : lv_has ls 3 [(0, rf g (1697)), (1, .int (x)), (2, .int (y))] := hl
  have hx := C.1
  have hb := C.2.1
  have hts := C.2.2.2.2.1
  unfold f_X11_buy at h
  refine lv_iload_n hx hb dX11_buy_0 rfl (lv_at hl 1 rfl) ?_
  obtain ⟨r1, M2, h3, h⟩ := bind2 h
  refine cBack C.2.2.2.2.2.2.2.2 (runS (As := [.int (x)]) (rest := []) C hW hS (c_X11_isMetal l g M x _ _ h3) kS_X11_isMetal ml_X11_79 rfl hl.1 rfl (Nat.le_of_ble_eq_true rfl) ⟨Nat.le_of_ble_eq_true rfl, Nat.le_of_ble_eq_true rfl⟩ ⟨Nat.zero_le _, Nat.zero_le _⟩ dX11_buy_1) hS (fun v0 w0 H locs hp hW hS => ?_)
  obtain ⟨rfl, rfl, zr1⟩ := hp
  refine lv_if_eq (tgt := 17) hx hb dX11_buy_4 (by decide) (fun c4 => ?_) (fun c4 => ?_)
  · rw [if_pos c4] at h
    refine lv_iconst (v := -1) hx hb dX11_buy_17 (by decide) ?_
    cases h
    exact rI C hr hlk dX11_buy_18 hW hS ⟨rfl, rfl⟩
  · rw [if_neg c4] at h
    refine lv_iload_n hx hb dX11_buy_7 rfl (lv_at hl 2 rfl) ?_
    refine lv_iconst (v := 1) hx hb dX11_buy_8 (by decide) ?_
    refine lv_ldc hx hb C.2.2.2.1 (C.2.2.2.2.1 _ kc_X11_83) dX11_buy_9 ?_
    obtain ⟨r5, M6, h7, h⟩ := bind2 h
    refine cBack C.2.2.2.2.2.2.2.2 (runS (As := [.int (y), .int (1), .int (100000)]) (rest := []) C hW hS (c_X11_in l g M2 y 1 100000 _ _ h7) kS_X11_in ml_X11_68 rfl hl.1 rfl (Nat.le_of_ble_eq_true rfl) ⟨Nat.le_of_ble_eq_true rfl, Nat.le_of_ble_eq_true rfl⟩ ⟨Nat.zero_le _, Nat.zero_le _⟩ dX11_buy_11) hS (fun v0 w0 H locs hp hW hS => ?_)
    obtain ⟨rfl, rfl, zr5⟩ := hp
    refine lv_if_ne (tgt := 19) hx hb dX11_buy_14 (by decide) (fun c8 => ?_) (fun c8 => ?_)
    · rw [if_neg c8] at h
      refine lv_aload_n hx hb dX11_buy_19 rfl (lv_at hl 0 rfl) ?_
      refine rGet (k := 0) C hW (by decide) tm_Model rfl inX11 (by decide) fl_X11_7 rfl dX11_buy_20 ?_
      refine lv_iconst (v := 0) hx hb dX11_buy_23 (by decide) ?_
      refine lv_iload_n hx hb dX11_buy_24 rfl (lv_at hl 1 rfl) ?_
      refine lv_iadd hx hb dX11_buy_25 ?_
      have s9 : vin ((0) + (x)) 1254 := Classical.byContradiction fun q9 => by rw [if_neg q9] at h; cases h
      rw [if_pos s9] at h
      refine rIld C hW (by decide) tm_s s9 dX11_buy_26 ?_
      refine lv_iload_n hx hb dX11_buy_27 rfl (lv_at hl 2 rfl) ?_
      refine lv_iadd hx hb dX11_buy_28 ?_
      refine lv_ldc hx hb C.2.2.2.1 (C.2.2.2.2.1 _ kc_X11_84) dX11_buy_29 ?_
      refine lv_icmp_le (tgt := 37) hx hb dX11_buy_31 (by decide) (fun c10 => ?_) (fun c10 => ?_)
      · rw [if_pos c10] at h
        refine lv_aload_n hx hb dX11_buy_37 rfl (lv_at hl 0 rfl) ?_
        obtain ⟨r11, M12, h13, h⟩ := bind2 h
        refine cBackV C.2.2.2.2.2.2.2.2 (runV (As := []) (rest := []) C hW hS (c_X11_keeps l g M6  _ _ h13) kV_X11_keeps ml_X11_85 (by decide) tm_Model rfl rfl rfl hl.1 rfl (Nat.le_of_ble_eq_true rfl) ⟨Nat.le_of_ble_eq_true rfl, Nat.le_of_ble_eq_true rfl⟩ ⟨Nat.zero_le _, Nat.zero_le _⟩ dX11_buy_38) hS (fun v0 H locs hp hW hS => ?_)
        subst hp
        refine lv_aload_n hx hb dX11_buy_41 rfl (lv_at hl 0 rfl) ?_
        refine rGet (k := 0) C hW (by decide) tm_Model rfl inX11 (by decide) fl_X11_7 rfl dX11_buy_42 ?_
        refine lv_iconst (v := 0) hx hb dX11_buy_45 (by decide) ?_
        refine lv_iload_n hx hb dX11_buy_46 rfl (lv_at hl 1 rfl) ?_
        refine lv_iadd hx hb dX11_buy_47 ?_
        refine lv_dup2_11 hx hb dX11_buy_48 rfl rfl ?_
        have s14 : vin ((0) + (x)) 1254 := Classical.byContradiction fun q9 => by rw [if_neg q9] at h; cases h
        rw [if_pos s14] at h
        refine rIld C hW (by decide) tm_s s14 dX11_buy_49 ?_
        refine lv_iload_n hx hb dX11_buy_50 rfl (lv_at hl 2 rfl) ?_
        refine lv_iadd hx hb dX11_buy_51 ?_
        have s15 : vin ((0) + (x)) 1254 := Classical.byContradiction fun q9 => by rw [if_neg q9] at h; cases h
        rw [if_pos s15] at h
        refine rIst (M' := up2 M12 21 ((0) + (x) : Int32).toNatClampNeg ((M12 21 ((0) + (x) : Int32).toNatClampNeg) + (y))) C hW hS (by decide) tm_s s15 (UPD_G (by decide) rfl (by rw [tm_s, up2_gr])) dX11_buy_52 (fun H locs hW hS => ?_)
        have hW : Wd g (up2 M12 21 ((0) + (x) : Int32).toNatClampNeg ((M12 21 ((0) + (x) : Int32).toNatClampNeg) + (y))) H := hW
        have h := letE h
        generalize up2 M12 21 ((0) + (x) : Int32).toNatClampNeg ((M12 21 ((0) + (x) : Int32).toNatClampNeg) + (y)) = M16 at hW h
        refine lv_aload_n hx hb dX11_buy_53 rfl (lv_at hl 0 rfl) ?_
        refine rGet (k := 0) C hW (by decide) tm_Model rfl inX11 (by decide) fl_X11_7 rfl dX11_buy_54 ?_
        refine lv_iconst (v := 2) hx hb dX11_buy_57 (by decide) ?_
        refine lv_iload_n hx hb dX11_buy_58 rfl (lv_at hl 1 rfl) ?_
        refine lv_iadd hx hb dX11_buy_59 ?_
        refine lv_dup2_11 hx hb dX11_buy_60 rfl rfl ?_
        have s17 : vin ((2) + (x)) 1254 := Classical.byContradiction fun q9 => by rw [if_neg q9] at h; cases h
        rw [if_pos s17] at h
        refine rIld C hW (by decide) tm_s s17 dX11_buy_61 ?_
        refine lv_iload_n hx hb dX11_buy_62 rfl (lv_at hl 2 rfl) ?_
        refine lv_iadd hx hb dX11_buy_63 ?_
        have s18 : vin ((2) + (x)) 1254 := Classical.byContradiction fun q9 => by rw [if_neg q9] at h; cases h
        rw [if_pos s18] at h
        refine rIst (M' := up2 M16 21 ((2) + (x) : Int32).toNatClampNeg ((M16 21 ((2) + (x) : Int32).toNatClampNeg) + (y))) C hW hS (by decide) tm_s s18 (UPD_G (by decide) rfl (by rw [tm_s, up2_gr])) dX11_buy_64 (fun H locs hW hS => ?_)
        have hW : Wd g (up2 M16 21 ((2) + (x) : Int32).toNatClampNeg ((M16 21 ((2) + (x) : Int32).toNatClampNeg) + (y))) H := hW
        have h := letE h
        generalize up2 M16 21 ((2) + (x) : Int32).toNatClampNeg ((M16 21 ((2) + (x) : Int32).toNatClampNeg) + (y)) = M19 at hW h
        refine lv_aload_n hx hb dX11_buy_65 rfl (lv_at hl 0 rfl) ?_
        refine rGet (k := 0) C hW (by decide) tm_Model rfl inX11 (by decide) fl_X11_7 rfl dX11_buy_66 ?_
        refine lv_iconst (v := 0) hx hb dX11_buy_69 (by decide) ?_
        refine lv_iload_n hx hb dX11_buy_70 rfl (lv_at hl 1 rfl) ?_
        refine lv_iadd hx hb dX11_buy_71 ?_
        have s20 : vin ((0) + (x)) 1254 := Classical.byContradiction fun q9 => by rw [if_neg q9] at h; cases h
        rw [if_pos s20] at h
        refine rIld C hW (by decide) tm_s s20 dX11_buy_72 ?_
        cases h
        exact rI C hr hlk dX11_buy_73 hW hS ⟨rfl, rfl⟩
      · rw [if_neg c10] at h
        refine lv_bipush (v := -3) hx hb dX11_buy_34 (by decide) ?_
        cases h
        exact rI C hr hlk dX11_buy_36 hW hS ⟨rfl, rfl⟩
    · rw [if_pos c8] at h
      refine lv_iconst (v := -1) hx hb dX11_buy_17 (by decide) ?_
      cases h
      exact rI C hr hlk dX11_buy_18 hW hS ⟨rfl, rfl⟩
def f_X11_charge (M : MM) (x : Int32) (y : Int32) : Option (Int32 × MM) := (bnd2 (f_X11_isMetal M x) fun r1 M2 => (if (r1 : Int32) = 0 then some (-1, M2) else (bnd2 (f_X11_in M2 y 1 20000) fun r5 M6 => (if (r5 : Int32) = 0 then some (-1, M6) else (if vin ((0) + (x)) 1254 then (if (y : Int32) ≤ (M6 21 ((0) + (x) : Int32).toNatClampNeg : Int32) then (bnd2 (f_X11_weight M6 6) fun r11 M12 => (if ((r11) + (y) : Int32) ≤ (20000 : Int32) then (bnd2 (f_X11_keeps M12 ) fun r15 M16 => (if vin ((0) + (x)) 1254 then (if vin ((0) + (x)) 1254 then (letB (up2 M16 21 ((0) + (x) : Int32).toNatClampNeg ((M16 21 ((0) + (x) : Int32).toNatClampNeg) - (y))) fun M20 => (if vin ((6) + (x)) 1254 then (if vin ((6) + (x)) 1254 then (letB (up2 M20 21 ((6) + (x) : Int32).toNatClampNeg ((M20 21 ((6) + (x) : Int32).toNatClampNeg) + (y))) fun M23 => (bnd2 (f_X11_weight M23 6) fun r24 M25 => some (r24, M25))) else none) else none)) else none) else none)) else some (-3, M12))) else some (-2, M6)) else none)))))
set_option maxHeartbeats 4000000 in
set_option maxRecDepth 100000 in
theorem c_X11_charge (l : Launch) (g : GD) (M : MM) (x : Int32) (y : Int32) (r : Int32) (M2 : MM) (h : f_X11_charge M x y = some (r, M2)) : Met l yX11_charge (wm yX11_charge cX11_charge 3 (some .int)) (RM 2 42) (va_Pc [rf g (1697), .int (x), .int (y)] (WDp g M)) (QQ g (fun v w0 => v = .int r ∧ M2 = w0)) 0 0 (AA g) := by
  refine mkM (by decide +kernel) (Nat.le_of_ble_eq_true rfl) ?_
  intro p e s m below meth c C hr hlk hW hS ls hl
  have hl : lv_has ls 3 [(0, rf g (1697)), (1, .int (x)), (2, .int (y))] := hl
  have hx := C.1
  have hb := C.2.1
  have hts := C.2.2.2.2.1
  unfold f_X11_charge at h
  refine lv_iload_n hx hb dX11_charge_0 rfl (lv_at hl 1 rfl) ?_
  obtain ⟨r1, M2, h3, h⟩ := bind2 h
  refine cBack C.2.2.2.2.2.2.2.2 (runS (As := [.int (x)]) (rest := []) C hW hS (c_X11_isMetal l g M x _ _ h3) kS_X11_isMetal ml_X11_79 rfl hl.1 rfl (Nat.le_of_ble_eq_true rfl) ⟨Nat.le_of_ble_eq_true rfl, Nat.le_of_ble_eq_true rfl⟩ ⟨Nat.zero_le _, Nat.zero_le _⟩ dX11_charge_1) hS (fun v0 w0 H locs hp hW hS => ?_)
  obtain ⟨rfl, rfl, zr1⟩ := hp
  refine lv_if_eq (tgt := 18) hx hb dX11_charge_4 (by decide) (fun c4 => ?_) (fun c4 => ?_)
  · rw [if_pos c4] at h
    refine lv_iconst (v := -1) hx hb dX11_charge_18 (by decide) ?_
    cases h
    exact rI C hr hlk dX11_charge_19 hW hS ⟨rfl, rfl⟩
  · rw [if_neg c4] at h
    refine lv_iload_n hx hb dX11_charge_7 rfl (lv_at hl 2 rfl) ?_
    refine lv_iconst (v := 1) hx hb dX11_charge_8 (by decide) ?_
    refine lv_sipush (v := 20000) hx hb dX11_charge_9 (by decide) ?_
    obtain ⟨r5, M6, h7, h⟩ := bind2 h
    refine cBack C.2.2.2.2.2.2.2.2 (runS (As := [.int (y), .int (1), .int (20000)]) (rest := []) C hW hS (c_X11_in l g M2 y 1 20000 _ _ h7) kS_X11_in ml_X11_68 rfl hl.1 rfl (Nat.le_of_ble_eq_true rfl) ⟨Nat.le_of_ble_eq_true rfl, Nat.le_of_ble_eq_true rfl⟩ ⟨Nat.zero_le _, Nat.zero_le _⟩ dX11_charge_12) hS (fun v0 w0 H locs hp hW hS => ?_)
    obtain ⟨rfl, rfl, zr5⟩ := hp
    refine lv_if_ne (tgt := 20) hx hb dX11_charge_15 (by decide) (fun c8 => ?_) (fun c8 => ?_)
    · rw [if_neg c8] at h
      refine lv_aload_n hx hb dX11_charge_20 rfl (lv_at hl 0 rfl) ?_
      refine rGet (k := 0) C hW (by decide) tm_Model rfl inX11 (by decide) fl_X11_7 rfl dX11_charge_21 ?_
      refine lv_iconst (v := 0) hx hb dX11_charge_24 (by decide) ?_
      refine lv_iload_n hx hb dX11_charge_25 rfl (lv_at hl 1 rfl) ?_
      refine lv_iadd hx hb dX11_charge_26 ?_
      have s9 : vin ((0) + (x)) 1254 := Classical.byContradiction fun q9 => by rw [if_neg q9] at h; cases h
      rw [if_pos s9] at h
      refine rIld C hW (by decide) tm_s s9 dX11_charge_27 ?_
      refine lv_iload_n hx hb dX11_charge_28 rfl (lv_at hl 2 rfl) ?_
      refine lv_icmp_ge (tgt := 35) hx hb dX11_charge_29 (by decide) (fun c10 => ?_) (fun c10 => ?_)
      · rw [if_pos c10] at h
        refine lv_aload_n hx hb dX11_charge_35 rfl (lv_at hl 0 rfl) ?_
        refine lv_bipush (v := 6) hx hb dX11_charge_36 (by decide) ?_
        obtain ⟨r11, M12, h13, h⟩ := bind2 h
        refine cBack C.2.2.2.2.2.2.2.2 (runV (As := [.int (6)]) (rest := []) C hW hS (c_X11_weight l g M6 6 _ _ h13) kV_X11_weight ml_X11_88 (by decide) tm_Model rfl rfl rfl hl.1 rfl (Nat.le_of_ble_eq_true rfl) ⟨Nat.le_of_ble_eq_true rfl, Nat.le_of_ble_eq_true rfl⟩ ⟨Nat.zero_le _, Nat.zero_le _⟩ dX11_charge_38) hS (fun v0 w0 H locs hp hW hS => ?_)
        obtain ⟨rfl, rfl⟩ := hp
        refine lv_iload_n hx hb dX11_charge_41 rfl (lv_at hl 2 rfl) ?_
        refine lv_iadd hx hb dX11_charge_42 ?_
        refine lv_sipush (v := 20000) hx hb dX11_charge_43 (by decide) ?_
        refine lv_icmp_le (tgt := 52) hx hb dX11_charge_46 (by decide) (fun c14 => ?_) (fun c14 => ?_)
        · rw [if_pos c14] at h
          refine lv_aload_n hx hb dX11_charge_52 rfl (lv_at hl 0 rfl) ?_
          obtain ⟨r15, M16, h17, h⟩ := bind2 h
          refine cBackV C.2.2.2.2.2.2.2.2 (runV (As := []) (rest := []) C hW hS (c_X11_keeps l g M12  _ _ h17) kV_X11_keeps ml_X11_85 (by decide) tm_Model rfl rfl rfl hl.1 rfl (Nat.le_of_ble_eq_true rfl) ⟨Nat.le_of_ble_eq_true rfl, Nat.le_of_ble_eq_true rfl⟩ ⟨Nat.zero_le _, Nat.zero_le _⟩ dX11_charge_53) hS (fun v0 H locs hp hW hS => ?_)
          subst hp
          refine lv_aload_n hx hb dX11_charge_56 rfl (lv_at hl 0 rfl) ?_
          refine rGet (k := 0) C hW (by decide) tm_Model rfl inX11 (by decide) fl_X11_7 rfl dX11_charge_57 ?_
          refine lv_iconst (v := 0) hx hb dX11_charge_60 (by decide) ?_
          refine lv_iload_n hx hb dX11_charge_61 rfl (lv_at hl 1 rfl) ?_
          refine lv_iadd hx hb dX11_charge_62 ?_
          refine lv_dup2_11 hx hb dX11_charge_63 rfl rfl ?_
          have s18 : vin ((0) + (x)) 1254 := Classical.byContradiction fun q9 => by rw [if_neg q9] at h; cases h
          rw [if_pos s18] at h
          refine rIld C hW (by decide) tm_s s18 dX11_charge_64 ?_
          refine lv_iload_n hx hb dX11_charge_65 rfl (lv_at hl 2 rfl) ?_
          refine lv_isub hx hb dX11_charge_66 ?_
          have s19 : vin ((0) + (x)) 1254 := Classical.byContradiction fun q9 => by rw [if_neg q9] at h; cases h
          rw [if_pos s19] at h
          refine rIst (M' := up2 M16 21 ((0) + (x) : Int32).toNatClampNeg ((M16 21 ((0) + (x) : Int32).toNatClampNeg) - (y))) C hW hS (by decide) tm_s s19 (UPD_G (by decide) rfl (by rw [tm_s, up2_gr])) dX11_charge_67 (fun H locs hW hS => ?_)
          have hW : Wd g (up2 M16 21 ((0) + (x) : Int32).toNatClampNeg ((M16 21 ((0) + (x) : Int32).toNatClampNeg) - (y))) H := hW
          have h := letE h
          generalize up2 M16 21 ((0) + (x) : Int32).toNatClampNeg ((M16 21 ((0) + (x) : Int32).toNatClampNeg) - (y)) = M20 at hW h
          refine lv_aload_n hx hb dX11_charge_68 rfl (lv_at hl 0 rfl) ?_
          refine rGet (k := 0) C hW (by decide) tm_Model rfl inX11 (by decide) fl_X11_7 rfl dX11_charge_69 ?_
          refine lv_bipush (v := 6) hx hb dX11_charge_72 (by decide) ?_
          refine lv_iload_n hx hb dX11_charge_74 rfl (lv_at hl 1 rfl) ?_
          refine lv_iadd hx hb dX11_charge_75 ?_
          refine lv_dup2_11 hx hb dX11_charge_76 rfl rfl ?_
          have s21 : vin ((6) + (x)) 1254 := Classical.byContradiction fun q9 => by rw [if_neg q9] at h; cases h
          rw [if_pos s21] at h
          refine rIld C hW (by decide) tm_s s21 dX11_charge_77 ?_
          refine lv_iload_n hx hb dX11_charge_78 rfl (lv_at hl 2 rfl) ?_
          refine lv_iadd hx hb dX11_charge_79 ?_
          have s22 : vin ((6) + (x)) 1254 := Classical.byContradiction fun q9 => by rw [if_neg q9] at h; cases h
          rw [if_pos s22] at h
          refine rIst (M' := up2 M20 21 ((6) + (x) : Int32).toNatClampNeg ((M20 21 ((6) + (x) : Int32).toNatClampNeg) + (y))) C hW hS (by decide) tm_s s22 (UPD_G (by decide) rfl (by rw [tm_s, up2_gr])) dX11_charge_80 (fun H locs hW hS => ?_)
          have hW : Wd g (up2 M20 21 ((6) + (x) : Int32).toNatClampNeg ((M20 21 ((6) + (x) : Int32).toNatClampNeg) + (y))) H := hW
          have h := letE h
          generalize up2 M20 21 ((6) + (x) : Int32).toNatClampNeg ((M20 21 ((6) + (x) : Int32).toNatClampNeg) + (y)) = M23 at hW h
          refine lv_aload_n hx hb dX11_charge_81 rfl (lv_at hl 0 rfl) ?_
          refine lv_bipush (v := 6) hx hb dX11_charge_82 (by decide) ?_
          obtain ⟨r24, M25, h26, h⟩ := bind2 h
          refine cBack C.2.2.2.2.2.2.2.2 (runV (As := [.int (6)]) (rest := []) C hW hS (c_X11_weight l g M23 6 _ _ h26) kV_X11_weight ml_X11_88 (by decide) tm_Model rfl rfl rfl hl.1 rfl (Nat.le_of_ble_eq_true rfl) ⟨Nat.le_of_ble_eq_true rfl, Nat.le_of_ble_eq_true rfl⟩ ⟨Nat.zero_le _, Nat.zero_le _⟩ dX11_charge_84) hS (fun v0 w0 H locs hp hW hS => ?_)
          obtain ⟨rfl, rfl⟩ := hp
          cases h
          exact rI C hr hlk dX11_charge_87 hW hS ⟨rfl, rfl⟩
        · rw [if_neg c14] at h
          refine lv_bipush (v := -3) hx hb dX11_charge_49 (by decide) ?_
          cases h
          exact rI C hr hlk dX11_charge_51 hW hS ⟨rfl, rfl⟩
      · rw [if_neg c10] at h
        refine lv_bipush (v := -2) hx hb dX11_charge_32 (by decide) ?_
        cases h
        exact rI C hr hlk dX11_charge_34 hW hS ⟨rfl, rfl⟩
    · rw [if_pos c8] at h
      refine lv_iconst (v := -1) hx hb dX11_charge_18 (by decide) ?_
      cases h
      exact rI C hr hlk dX11_charge_19 hW hS ⟨rfl, rfl⟩
def lp_X11_scrap_93 (fu : Nat) (M : MM)  (x : Int32) (u : Int32) (z : Int32) : Option (Int32 × MM) := match fu with
  | 0 => none
  | n + 1 => (if vin (8) 1254 then (if ((9) + ((3) * (M 21 (8 : Int32).toNatClampNeg)) : Int32) ≤ (z : Int32) then (bnd2 (f_X11_weight M 6) fun r1003 M1004 => some (r1003, M1004)) else (if vin ((z) + (3)) 1254 then (if vin (z) 1254 then (letB (up2 M 21 (z : Int32).toNatClampNeg (M 21 ((z) + (3) : Int32).toNatClampNeg)) fun M1008 => (lp_X11_scrap_93 n M1008   x u (z + 1))) else none) else none)) else none)
def f_X11_scrap (M : MM) (x : Int32) : Option (Int32 × MM) := (bnd2 (f_X11_isLot M x) fun r1 M2 => (if (r1 : Int32) = 0 then some (-1, M2) else (bnd2 (f_X11_weight M2 6) fun r5 M6 => (bnd2 (f_X11_weight M6 ((9) + ((3) * (x)))) fun r8 M9 => (if ((r5) + (r8) : Int32) ≤ (20000 : Int32) then (bnd2 (f_X11_keeps M9 ) fun r12 M13 => (if vin (((9) + ((3) * (x))) + (2)) 1254 then (if (M13 21 (((9) + ((3) * (x))) + (2) : Int32).toNatClampNeg : Int32) = (1 : Int32) then (bnd2 (f_X11_burns M13 ((9) + ((3) * (x)))) fun r25 M26 => (if vin ((9) + ((3) * (x))) 1254 then (if vin (((9) + ((3) * (x))) + (1)) 1254 then (bnd2 (f_X11_moves M26 ((9) + ((3) * (x))) 6 (M26 21 ((9) + ((3) * (x)) : Int32).toNatClampNeg) (M26 21 (((9) + ((3) * (x))) + (1) : Int32).toNatClampNeg)) fun r30 M31 => (if vin (8) 1254 then (if vin (8) 1254 then (letB (up2 M31 21 (8 : Int32).toNatClampNeg ((M31 21 (8 : Int32).toNatClampNeg) - (1))) fun M35 => (lp_X11_scrap_93 FU M35   x ((9) + ((3) * (x))) ((9) + ((3) * (x))))) else none) else none)) else none) else none)) else (if vin ((9) + ((3) * (x))) 1254 then (if vin (((9) + ((3) * (x))) + (1)) 1254 then (bnd2 (f_X11_moves M13 ((9) + ((3) * (x))) 6 (M13 21 ((9) + ((3) * (x)) : Int32).toNatClampNeg) (M13 21 (((9) + ((3) * (x))) + (1) : Int32).toNatClampNeg)) fun r19 M20 => (if vin (8) 1254 then (if vin (8) 1254 then (letB (up2 M20 21 (8 : Int32).toNatClampNeg ((M20 21 (8 : Int32).toNatClampNeg) - (1))) fun M24 => (lp_X11_scrap_93 FU M24   x ((9) + ((3) * (x))) ((9) + ((3) * (x))))) else none) else none)) else none) else none)) else none)) else some (-3, M9))))))
set_option maxHeartbeats 4000000 in
set_option maxRecDepth 100000 in
theorem t_X11_scrap_93 (l : Launch) (g : GD) {p : Program} {e : Env} {s : State} {m : MethodId} {av : Array Value} {below : List Frame} {meth : Method} {c : Code}  (n : Nat) : ∀ (M : MM) (x : Int32) (u : Int32) (z : Int32) (r : Int32) (M2 : MM), lp_X11_scrap_93 n M   x u z = some (r, M2) → CX p s m av c cX11_scrap 4 RX11 g → meth.sig.returnType = (some .int) → meth.locks = false → ∀ (H : Heap) (locs : List Loc), Wd g M H → sS g s H locs → ∀ ls : Array Slot, lv_has ls 4 [(0, rf g (1697)), (1, .int (x)), (2, .int (u)), (3, .int (z))] → W p l e (RM 3 64) s m av below meth c H locs 0 0 (MQ below (QQ g (fun v w0 => v = .int r ∧ M2 = w0)) av s 0 0 (AA g)) (F0 m 93 ls []) := by
  induction n with
  | zero => intro M x u z r M2 h; cases h
  | succ n ih0 =>
    intro M x u z r M2 h C hr hlk H locs hW hS ls hl
    have ih : ∀ (M : MM) (x : Int32) (u : Int32) (z : Int32), lp_X11_scrap_93 n M   x u z = some (r, M2) → ∀ (H : Heap) (locs : List Loc), Wd g M H → sS g s H locs → ∀ ls : Array Slot, lv_has ls 4 [(0, rf g (1697)), (1, .int (x)), (2, .int (u)), (3, .int (z))] → W p l e (RM 3 64) s m av below meth c H locs 0 0 (MQ below (QQ g (fun v w0 => v = .int r ∧ M2 = w0)) av s 0 0 (AA g)) (F0 m 93 ls []) := fun M x u z h H locs hW hS ls hl => ih0 M x u z r M2 h C hr hlk H locs hW hS ls hl
    unfold lp_X11_scrap_93 at h
    try dsimp only at h
    have hx := C.1
    have hb := C.2.1
    have hts := C.2.2.2.2.1
    refine lv_iload_n hx hb dX11_scrap_93 rfl (lv_at hl 3 rfl) ?_
    refine lv_bipush (v := 9) hx hb dX11_scrap_94 (by decide) ?_
    refine lv_iconst (v := 3) hx hb dX11_scrap_96 (by decide) ?_
    refine lv_aload_n hx hb dX11_scrap_97 rfl (lv_at hl 0 rfl) ?_
    refine rGet (k := 0) C hW (by decide) tm_Model rfl inX11 (by decide) fl_X11_7 rfl dX11_scrap_98 ?_
    refine lv_bipush (v := 8) hx hb dX11_scrap_101 (by decide) ?_
    have s1001 : vin (8) 1254 := Classical.byContradiction fun q9 => by rw [if_neg q9] at h; cases h
    rw [if_pos s1001] at h
    refine rIld C hW (by decide) tm_s s1001 dX11_scrap_103 ?_
    refine lv_imul hx hb dX11_scrap_104 ?_
    refine lv_iadd hx hb dX11_scrap_105 ?_
    refine lv_icmp_ge (tgt := 129) hx hb dX11_scrap_106 (by decide) (fun c1002 => ?_) (fun c1002 => ?_)
    · rw [if_pos c1002] at h
      refine lv_aload_n hx hb dX11_scrap_129 rfl (lv_at hl 0 rfl) ?_
      refine lv_bipush (v := 6) hx hb dX11_scrap_130 (by decide) ?_
      obtain ⟨r1003, M1004, h1005, h⟩ := bind2 h
      refine cBack C.2.2.2.2.2.2.2.2 (runV (As := [.int (6)]) (rest := []) C hW hS (c_X11_weight l g M 6 _ _ h1005) kV_X11_weight ml_X11_88 (by decide) tm_Model rfl rfl rfl hl.1 rfl (Nat.le_of_ble_eq_true rfl) ⟨Nat.le_of_ble_eq_true rfl, Nat.le_of_ble_eq_true rfl⟩ ⟨Nat.zero_le _, Nat.zero_le _⟩ dX11_scrap_132) hS (fun v0 w0 H locs hp hW hS => ?_)
      obtain ⟨rfl, rfl⟩ := hp
      cases h
      exact rI C hr hlk dX11_scrap_135 hW hS ⟨rfl, rfl⟩
    · rw [if_neg c1002] at h
      refine lv_aload_n hx hb dX11_scrap_109 rfl (lv_at hl 0 rfl) ?_
      refine rGet (k := 0) C hW (by decide) tm_Model rfl inX11 (by decide) fl_X11_7 rfl dX11_scrap_110 ?_
      refine lv_iload_n hx hb dX11_scrap_113 rfl (lv_at hl 3 rfl) ?_
      refine lv_aload_n hx hb dX11_scrap_114 rfl (lv_at hl 0 rfl) ?_
      refine rGet (k := 0) C hW (by decide) tm_Model rfl inX11 (by decide) fl_X11_7 rfl dX11_scrap_115 ?_
      refine lv_iload_n hx hb dX11_scrap_118 rfl (lv_at hl 3 rfl) ?_
      refine lv_iconst (v := 3) hx hb dX11_scrap_119 (by decide) ?_
      refine lv_iadd hx hb dX11_scrap_120 ?_
      have s1006 : vin ((z) + (3)) 1254 := Classical.byContradiction fun q9 => by rw [if_neg q9] at h; cases h
      rw [if_pos s1006] at h
      refine rIld C hW (by decide) tm_s s1006 dX11_scrap_121 ?_
      have s1007 : vin (z) 1254 := Classical.byContradiction fun q9 => by rw [if_neg q9] at h; cases h
      rw [if_pos s1007] at h
      refine rIst (M' := up2 M 21 (z : Int32).toNatClampNeg (M 21 ((z) + (3) : Int32).toNatClampNeg)) C hW hS (by decide) tm_s s1007 (UPD_G (by decide) rfl (by rw [tm_s, up2_gr])) dX11_scrap_122 (fun H locs hW hS => ?_)
      have hW : Wd g (up2 M 21 (z : Int32).toNatClampNeg (M 21 ((z) + (3) : Int32).toNatClampNeg)) H := hW
      have h := letE h
      generalize up2 M 21 (z : Int32).toNatClampNeg (M 21 ((z) + (3) : Int32).toNatClampNeg) = M1008 at hW h
      refine lv_iinc (v := z + 1) (lv' := [(3, .int (z + 1)), (0, rf g (1697)), (1, .int (x)), (2, .int (u))]) hx hb dX11_scrap_123 hl (k := 3) rfl rfl (by decide) rfl (fun ls hl => ?_)
      refine lv_goto (tgt := 93) hx hb dX11_scrap_126 (by decide) ?_
      exact ih M1008 x u (z + 1) h _ _ hW hS ls (lv_sub hl [1, 2, 3, 0] rfl)
set_option maxHeartbeats 4000000 in
set_option maxRecDepth 100000 in
theorem c_X11_scrap (l : Launch) (g : GD) (M : MM) (x : Int32) (r : Int32) (M2 : MM) (h : f_X11_scrap M x = some (r, M2)) : Met l yX11_scrap (wm yX11_scrap cX11_scrap 4 (some .int)) (RM 3 64) (va_Pc [rf g (1697), .int (x)] (WDp g M)) (QQ g (fun v w0 => v = .int r ∧ M2 = w0)) 0 0 (AA g) := by
  refine mkM (by decide +kernel) (Nat.le_of_ble_eq_true rfl) ?_
  intro p e s m below meth c C hr hlk hW hS ls hl
  have hl : lv_has ls 4 [(0, rf g (1697)), (1, .int (x))] := hl
  have hx := C.1
  have hb := C.2.1
  have hts := C.2.2.2.2.1
  unfold f_X11_scrap at h
  refine lv_aload_n hx hb dX11_scrap_0 rfl (lv_at hl 0 rfl) ?_
  refine lv_iload_n hx hb dX11_scrap_1 rfl (lv_at hl 1 rfl) ?_
  obtain ⟨r1, M2, h3, h⟩ := bind2 h
  refine cBack C.2.2.2.2.2.2.2.2 (runV (As := [.int (x)]) (rest := []) C hW hS (c_X11_isLot l g M x _ _ h3) kV_X11_isLot ml_X11_91 (by decide) tm_Model rfl rfl rfl hl.1 rfl (Nat.le_of_ble_eq_true rfl) ⟨Nat.le_of_ble_eq_true rfl, Nat.le_of_ble_eq_true rfl⟩ ⟨Nat.zero_le _, Nat.zero_le _⟩ dX11_scrap_2) hS (fun v0 w0 H locs hp hW hS => ?_)
  obtain ⟨rfl, rfl, zr1⟩ := hp
  refine lv_if_ne (tgt := 10) hx hb dX11_scrap_5 (by decide) (fun c4 => ?_) (fun c4 => ?_)
  · rw [if_neg c4] at h
    refine lv_bipush (v := 9) hx hb dX11_scrap_10 (by decide) ?_
    refine lv_iconst (v := 3) hx hb dX11_scrap_12 (by decide) ?_
    refine lv_iload_n hx hb dX11_scrap_13 rfl (lv_at hl 1 rfl) ?_
    refine lv_imul hx hb dX11_scrap_14 ?_
    refine lv_iadd hx hb dX11_scrap_15 ?_
    refine lv_istore_n (lv' := [(2, .int ((9) + ((3) * (x)))), (0, rf g (1697)), (1, .int (x))]) hx hb dX11_scrap_16 rfl hl (by decide) rfl (fun ls hl => ?_)
    refine lv_aload_n hx hb dX11_scrap_17 rfl (lv_at hl 1 rfl) ?_
    refine lv_bipush (v := 6) hx hb dX11_scrap_18 (by decide) ?_
    obtain ⟨r5, M6, h7, h⟩ := bind2 h
    refine cBack C.2.2.2.2.2.2.2.2 (runV (As := [.int (6)]) (rest := []) C hW hS (c_X11_weight l g M2 6 _ _ h7) kV_X11_weight ml_X11_88 (by decide) tm_Model rfl rfl rfl hl.1 rfl (Nat.le_of_ble_eq_true rfl) ⟨Nat.le_of_ble_eq_true rfl, Nat.le_of_ble_eq_true rfl⟩ ⟨Nat.zero_le _, Nat.zero_le _⟩ dX11_scrap_20) hS (fun v0 w0 H locs hp hW hS => ?_)
    obtain ⟨rfl, rfl⟩ := hp
    refine lv_aload_n hx hb dX11_scrap_23 rfl (lv_at hl 1 rfl) ?_
    refine lv_iload_n hx hb dX11_scrap_24 rfl (lv_at hl 0 rfl) ?_
    obtain ⟨r8, M9, h10, h⟩ := bind2 h
    refine cBack C.2.2.2.2.2.2.2.2 (runV (As := [.int ((9) + ((3) * (x)))]) (rest := [.int (r5)]) C hW hS (c_X11_weight l g M6 ((9) + ((3) * (x))) _ _ h10) kV_X11_weight ml_X11_88 (by decide) tm_Model rfl rfl rfl hl.1 rfl (Nat.le_of_ble_eq_true rfl) ⟨Nat.le_of_ble_eq_true rfl, Nat.le_of_ble_eq_true rfl⟩ ⟨Nat.zero_le _, Nat.zero_le _⟩ dX11_scrap_25) hS (fun v0 w0 H locs hp hW hS => ?_)
    obtain ⟨rfl, rfl⟩ := hp
    refine lv_iadd hx hb dX11_scrap_28 ?_
    refine lv_sipush (v := 20000) hx hb dX11_scrap_29 (by decide) ?_
    refine lv_icmp_le (tgt := 38) hx hb dX11_scrap_32 (by decide) (fun c11 => ?_) (fun c11 => ?_)
    · rw [if_pos c11] at h
      refine lv_aload_n hx hb dX11_scrap_38 rfl (lv_at hl 1 rfl) ?_
      obtain ⟨r12, M13, h14, h⟩ := bind2 h
      refine cBackV C.2.2.2.2.2.2.2.2 (runV (As := []) (rest := []) C hW hS (c_X11_keeps l g M9  _ _ h14) kV_X11_keeps ml_X11_85 (by decide) tm_Model rfl rfl rfl hl.1 rfl (Nat.le_of_ble_eq_true rfl) ⟨Nat.le_of_ble_eq_true rfl, Nat.le_of_ble_eq_true rfl⟩ ⟨Nat.zero_le _, Nat.zero_le _⟩ dX11_scrap_39) hS (fun v0 H locs hp hW hS => ?_)
      subst hp
      refine lv_aload_n hx hb dX11_scrap_42 rfl (lv_at hl 1 rfl) ?_
      refine rGet (k := 0) C hW (by decide) tm_Model rfl inX11 (by decide) fl_X11_7 rfl dX11_scrap_43 ?_
      refine lv_iload_n hx hb dX11_scrap_46 rfl (lv_at hl 0 rfl) ?_
      refine lv_iconst (v := 2) hx hb dX11_scrap_47 (by decide) ?_
      refine lv_iadd hx hb dX11_scrap_48 ?_
      have s15 : vin (((9) + ((3) * (x))) + (2)) 1254 := Classical.byContradiction fun q9 => by rw [if_neg q9] at h; cases h
      rw [if_pos s15] at h
      refine rIld C hW (by decide) tm_s s15 dX11_scrap_49 ?_
      refine lv_iconst (v := 1) hx hb dX11_scrap_50 (by decide) ?_
      refine lv_icmp_ne (tgt := 59) hx hb dX11_scrap_51 (by decide) (fun c16 => ?_) (fun c16 => ?_)
      · rw [if_neg c16] at h
        refine lv_aload_n hx hb dX11_scrap_59 rfl (lv_at hl 1 rfl) ?_
        refine lv_iload_n hx hb dX11_scrap_60 rfl (lv_at hl 0 rfl) ?_
        refine lv_bipush (v := 6) hx hb dX11_scrap_61 (by decide) ?_
        refine lv_aload_n hx hb dX11_scrap_63 rfl (lv_at hl 1 rfl) ?_
        refine rGet (k := 0) C hW (by decide) tm_Model rfl inX11 (by decide) fl_X11_7 rfl dX11_scrap_64 ?_
        refine lv_iload_n hx hb dX11_scrap_67 rfl (lv_at hl 0 rfl) ?_
        have s17 : vin ((9) + ((3) * (x))) 1254 := Classical.byContradiction fun q9 => by rw [if_neg q9] at h; cases h
        rw [if_pos s17] at h
        refine rIld C hW (by decide) tm_s s17 dX11_scrap_68 ?_
        refine lv_aload_n hx hb dX11_scrap_69 rfl (lv_at hl 1 rfl) ?_
        refine rGet (k := 0) C hW (by decide) tm_Model rfl inX11 (by decide) fl_X11_7 rfl dX11_scrap_70 ?_
        refine lv_iload_n hx hb dX11_scrap_73 rfl (lv_at hl 0 rfl) ?_
        refine lv_iconst (v := 1) hx hb dX11_scrap_74 (by decide) ?_
        refine lv_iadd hx hb dX11_scrap_75 ?_
        have s18 : vin (((9) + ((3) * (x))) + (1)) 1254 := Classical.byContradiction fun q9 => by rw [if_neg q9] at h; cases h
        rw [if_pos s18] at h
        refine rIld C hW (by decide) tm_s s18 dX11_scrap_76 ?_
        obtain ⟨r19, M20, h21, h⟩ := bind2 h
        refine cBackV C.2.2.2.2.2.2.2.2 (runV (As := [.int ((9) + ((3) * (x))), .int (6), .int (M13 21 ((9) + ((3) * (x)) : Int32).toNatClampNeg), .int (M13 21 (((9) + ((3) * (x))) + (1) : Int32).toNatClampNeg)]) (rest := []) C hW hS (c_X11_moves l g M13 ((9) + ((3) * (x))) 6 (M13 21 ((9) + ((3) * (x)) : Int32).toNatClampNeg) (M13 21 (((9) + ((3) * (x))) + (1) : Int32).toNatClampNeg) _ _ h21) kV_X11_moves ml_X11_57 (by decide) tm_Model rfl rfl rfl hl.1 rfl (Nat.le_of_ble_eq_true rfl) ⟨Nat.le_of_ble_eq_true rfl, Nat.le_of_ble_eq_true rfl⟩ ⟨Nat.zero_le _, Nat.zero_le _⟩ dX11_scrap_77) hS (fun v0 H locs hp hW hS => ?_)
        subst hp
        refine lv_aload_n hx hb dX11_scrap_80 rfl (lv_at hl 1 rfl) ?_
        refine rGet (k := 0) C hW (by decide) tm_Model rfl inX11 (by decide) fl_X11_7 rfl dX11_scrap_81 ?_
        refine lv_bipush (v := 8) hx hb dX11_scrap_84 (by decide) ?_
        refine lv_dup2_11 hx hb dX11_scrap_86 rfl rfl ?_
        have s22 : vin (8) 1254 := Classical.byContradiction fun q9 => by rw [if_neg q9] at h; cases h
        rw [if_pos s22] at h
        refine rIld C hW (by decide) tm_s s22 dX11_scrap_87 ?_
        refine lv_iconst (v := 1) hx hb dX11_scrap_88 (by decide) ?_
        refine lv_isub hx hb dX11_scrap_89 ?_
        have s23 : vin (8) 1254 := Classical.byContradiction fun q9 => by rw [if_neg q9] at h; cases h
        rw [if_pos s23] at h
        refine rIst (M' := up2 M20 21 (8 : Int32).toNatClampNeg ((M20 21 (8 : Int32).toNatClampNeg) - (1))) C hW hS (by decide) tm_s s23 (UPD_G (by decide) rfl (by rw [tm_s, up2_gr])) dX11_scrap_90 (fun H locs hW hS => ?_)
        have hW : Wd g (up2 M20 21 (8 : Int32).toNatClampNeg ((M20 21 (8 : Int32).toNatClampNeg) - (1))) H := hW
        have h := letE h
        generalize up2 M20 21 (8 : Int32).toNatClampNeg ((M20 21 (8 : Int32).toNatClampNeg) - (1)) = M24 at hW h
        refine lv_iload_n hx hb dX11_scrap_91 rfl (lv_at hl 0 rfl) ?_
        refine lv_istore_n (lv' := [(3, .int ((9) + ((3) * (x)))), (2, .int ((9) + ((3) * (x)))), (0, rf g (1697)), (1, .int (x))]) hx hb dX11_scrap_92 rfl hl (by decide) rfl (fun ls hl => ?_)
        exact t_X11_scrap_93 l g    FU M24 x ((9) + ((3) * (x))) ((9) + ((3) * (x))) _ _ h C hr hlk _ _ hW hS ls (lv_sub hl [2, 3, 1, 0] rfl)
      · rw [if_pos c16] at h
        refine lv_aload_n hx hb dX11_scrap_54 rfl (lv_at hl 1 rfl) ?_
        refine lv_iload_n hx hb dX11_scrap_55 rfl (lv_at hl 0 rfl) ?_
        obtain ⟨r25, M26, h27, h⟩ := bind2 h
        refine cBackV C.2.2.2.2.2.2.2.2 (runV (As := [.int ((9) + ((3) * (x)))]) (rest := []) C hW hS (c_X11_burns l g M13 ((9) + ((3) * (x))) _ _ h27) kV_X11_burns ml_X11_94 (by decide) tm_Model rfl rfl rfl hl.1 rfl (Nat.le_of_ble_eq_true rfl) ⟨Nat.le_of_ble_eq_true rfl, Nat.le_of_ble_eq_true rfl⟩ ⟨Nat.zero_le _, Nat.zero_le _⟩ dX11_scrap_56) hS (fun v0 H locs hp hW hS => ?_)
        subst hp
        refine lv_aload_n hx hb dX11_scrap_59 rfl (lv_at hl 1 rfl) ?_
        refine lv_iload_n hx hb dX11_scrap_60 rfl (lv_at hl 0 rfl) ?_
        refine lv_bipush (v := 6) hx hb dX11_scrap_61 (by decide) ?_
        refine lv_aload_n hx hb dX11_scrap_63 rfl (lv_at hl 1 rfl) ?_
        refine rGet (k := 0) C hW (by decide) tm_Model rfl inX11 (by decide) fl_X11_7 rfl dX11_scrap_64 ?_
        refine lv_iload_n hx hb dX11_scrap_67 rfl (lv_at hl 0 rfl) ?_
        have s28 : vin ((9) + ((3) * (x))) 1254 := Classical.byContradiction fun q9 => by rw [if_neg q9] at h; cases h
        rw [if_pos s28] at h
        refine rIld C hW (by decide) tm_s s28 dX11_scrap_68 ?_
        refine lv_aload_n hx hb dX11_scrap_69 rfl (lv_at hl 1 rfl) ?_
        refine rGet (k := 0) C hW (by decide) tm_Model rfl inX11 (by decide) fl_X11_7 rfl dX11_scrap_70 ?_
        refine lv_iload_n hx hb dX11_scrap_73 rfl (lv_at hl 0 rfl) ?_
        refine lv_iconst (v := 1) hx hb dX11_scrap_74 (by decide) ?_
        refine lv_iadd hx hb dX11_scrap_75 ?_
        have s29 : vin (((9) + ((3) * (x))) + (1)) 1254 := Classical.byContradiction fun q9 => by rw [if_neg q9] at h; cases h
        rw [if_pos s29] at h
        refine rIld C hW (by decide) tm_s s29 dX11_scrap_76 ?_
        obtain ⟨r30, M31, h32, h⟩ := bind2 h
        refine cBackV C.2.2.2.2.2.2.2.2 (runV (As := [.int ((9) + ((3) * (x))), .int (6), .int (M26 21 ((9) + ((3) * (x)) : Int32).toNatClampNeg), .int (M26 21 (((9) + ((3) * (x))) + (1) : Int32).toNatClampNeg)]) (rest := []) C hW hS (c_X11_moves l g M26 ((9) + ((3) * (x))) 6 (M26 21 ((9) + ((3) * (x)) : Int32).toNatClampNeg) (M26 21 (((9) + ((3) * (x))) + (1) : Int32).toNatClampNeg) _ _ h32) kV_X11_moves ml_X11_57 (by decide) tm_Model rfl rfl rfl hl.1 rfl (Nat.le_of_ble_eq_true rfl) ⟨Nat.le_of_ble_eq_true rfl, Nat.le_of_ble_eq_true rfl⟩ ⟨Nat.zero_le _, Nat.zero_le _⟩ dX11_scrap_77) hS (fun v0 H locs hp hW hS => ?_)
        subst hp
        refine lv_aload_n hx hb dX11_scrap_80 rfl (lv_at hl 1 rfl) ?_
        refine rGet (k := 0) C hW (by decide) tm_Model rfl inX11 (by decide) fl_X11_7 rfl dX11_scrap_81 ?_
        refine lv_bipush (v := 8) hx hb dX11_scrap_84 (by decide) ?_
        refine lv_dup2_11 hx hb dX11_scrap_86 rfl rfl ?_
        have s33 : vin (8) 1254 := Classical.byContradiction fun q9 => by rw [if_neg q9] at h; cases h
        rw [if_pos s33] at h
        refine rIld C hW (by decide) tm_s s33 dX11_scrap_87 ?_
        refine lv_iconst (v := 1) hx hb dX11_scrap_88 (by decide) ?_
        refine lv_isub hx hb dX11_scrap_89 ?_
        have s34 : vin (8) 1254 := Classical.byContradiction fun q9 => by rw [if_neg q9] at h; cases h
        rw [if_pos s34] at h
        refine rIst (M' := up2 M31 21 (8 : Int32).toNatClampNeg ((M31 21 (8 : Int32).toNatClampNeg) - (1))) C hW hS (by decide) tm_s s34 (UPD_G (by decide) rfl (by rw [tm_s, up2_gr])) dX11_scrap_90 (fun H locs hW hS => ?_)
        have hW : Wd g (up2 M31 21 (8 : Int32).toNatClampNeg ((M31 21 (8 : Int32).toNatClampNeg) - (1))) H := hW
        have h := letE h
        generalize up2 M31 21 (8 : Int32).toNatClampNeg ((M31 21 (8 : Int32).toNatClampNeg) - (1)) = M35 at hW h
        refine lv_iload_n hx hb dX11_scrap_91 rfl (lv_at hl 0 rfl) ?_
        refine lv_istore_n (lv' := [(3, .int ((9) + ((3) * (x)))), (2, .int ((9) + ((3) * (x)))), (0, rf g (1697)), (1, .int (x))]) hx hb dX11_scrap_92 rfl hl (by decide) rfl (fun ls hl => ?_)
        exact t_X11_scrap_93 l g    FU M35 x ((9) + ((3) * (x))) ((9) + ((3) * (x))) _ _ h C hr hlk _ _ hW hS ls (lv_sub hl [2, 3, 1, 0] rfl)
    · rw [if_neg c11] at h
      refine lv_bipush (v := -3) hx hb dX11_scrap_35 (by decide) ?_
      cases h
      exact rI C hr hlk dX11_scrap_37 hW hS ⟨rfl, rfl⟩
  · rw [if_pos c4] at h
    refine lv_iconst (v := -1) hx hb dX11_scrap_8 (by decide) ?_
    cases h
    exact rI C hr hlk dX11_scrap_9 hW hS ⟨rfl, rfl⟩
def f_X11_lot (M : MM) (x : Int32) (y : Int32) : Option (Int32 × MM) := (bnd2 (f_X11_isLot M x) fun r1 M2 => (if (r1 : Int32) = 0 then some (-1, M2) else (if (y : Int32) = 0 then (if vin (((9) + ((3) * (x))) + (y)) 1254 then some (M2 21 (((9) + ((3) * (x))) + (y) : Int32).toNatClampNeg, M2) else none) else (if (y : Int32) = 1 then (if vin (((9) + ((3) * (x))) + (y)) 1254 then some (M2 21 (((9) + ((3) * (x))) + (y) : Int32).toNatClampNeg, M2) else none) else (if (y : Int32) = 2 then (bnd2 (f_X11_weight M2 ((9) + ((3) * (x)))) fun r10 M11 => some (r10, M11)) else (if (y : Int32) = 3 then (bnd2 (f_X11_alloy M2 ((9) + ((3) * (x)))) fun r14 M15 => some (r14, M15)) else (if (y : Int32) = 4 then (if vin (((9) + ((3) * (x))) + (2)) 1254 then some (M2 21 (((9) + ((3) * (x))) + (2) : Int32).toNatClampNeg, M2) else none) else some (-1, M2))))))))
set_option maxHeartbeats 4000000 in
set_option maxRecDepth 100000 in
theorem c_X11_lot (l : Launch) (g : GD) (M : MM) (x : Int32) (y : Int32) (r : Int32) (M2 : MM) (h : f_X11_lot M x y = some (r, M2)) : Met l yX11_lot (wm yX11_lot cX11_lot 4 (some .int)) (RM 2 43) (va_Pc [rf g (1697), .int (x), .int (y)] (WDp g M)) (QQ g (fun v w0 => v = .int r ∧ M2 = w0)) 0 0 (AA g) := by
  refine mkM (by decide +kernel) (Nat.le_of_ble_eq_true rfl) ?_
  intro p e s m below meth c C hr hlk hW hS ls hl
  have hl : lv_has ls 4 [(0, rf g (1697)), (1, .int (x)), (2, .int (y))] := hl
  have hx := C.1
  have hb := C.2.1
  have hts := C.2.2.2.2.1
  unfold f_X11_lot at h
  refine lv_aload_n hx hb dX11_lot_0 rfl (lv_at hl 0 rfl) ?_
  refine lv_iload_n hx hb dX11_lot_1 rfl (lv_at hl 1 rfl) ?_
  obtain ⟨r1, M2, h3, h⟩ := bind2 h
  refine cBack C.2.2.2.2.2.2.2.2 (runV (As := [.int (x)]) (rest := []) C hW hS (c_X11_isLot l g M x _ _ h3) kV_X11_isLot ml_X11_91 (by decide) tm_Model rfl rfl rfl hl.1 rfl (Nat.le_of_ble_eq_true rfl) ⟨Nat.le_of_ble_eq_true rfl, Nat.le_of_ble_eq_true rfl⟩ ⟨Nat.zero_le _, Nat.zero_le _⟩ dX11_lot_2) hS (fun v0 w0 H locs hp hW hS => ?_)
  obtain ⟨rfl, rfl, zr1⟩ := hp
  refine lv_if_ne (tgt := 10) hx hb dX11_lot_5 (by decide) (fun c4 => ?_) (fun c4 => ?_)
  · rw [if_neg c4] at h
    refine lv_bipush (v := 9) hx hb dX11_lot_10 (by decide) ?_
    refine lv_iconst (v := 3) hx hb dX11_lot_12 (by decide) ?_
    refine lv_iload_n hx hb dX11_lot_13 rfl (lv_at hl 1 rfl) ?_
    refine lv_imul hx hb dX11_lot_14 ?_
    refine lv_iadd hx hb dX11_lot_15 ?_
    refine lv_istore_n (lv' := [(3, .int ((9) + ((3) * (x)))), (0, rf g (1697)), (1, .int (x)), (2, .int (y))]) hx hb dX11_lot_16 rfl hl (by decide) rfl (fun ls hl => ?_)
    refine lv_iload_n hx hb dX11_lot_17 rfl (lv_at hl 3 rfl) ?_
    by_cases c5 : (y : Int32) = 0
    · rw [if_pos c5] at h
      refine lv_tableIn (off := 34) (tgt := 52) hx hb dX11_lot_18 (by rw [c5]; decide) (by rw [c5]; decide) (by rw [c5]; rfl) (by decide) ?_
      refine lv_aload_n hx hb dX11_lot_52 rfl (lv_at hl 1 rfl) ?_
      refine rGet (k := 0) C hW (by decide) tm_Model rfl inX11 (by decide) fl_X11_7 rfl dX11_lot_53 ?_
      refine lv_iload_n hx hb dX11_lot_56 rfl (lv_at hl 0 rfl) ?_
      refine lv_iload_n hx hb dX11_lot_57 rfl (lv_at hl 3 rfl) ?_
      refine lv_iadd hx hb dX11_lot_58 ?_
      have s6 : vin (((9) + ((3) * (x))) + (y)) 1254 := Classical.byContradiction fun q9 => by rw [if_neg q9] at h; cases h
      rw [if_pos s6] at h
      refine rIld C hW (by decide) tm_s s6 dX11_lot_59 ?_
      cases h
      exact rI C hr hlk dX11_lot_60 hW hS ⟨rfl, rfl⟩
    rw [if_neg c5] at h
    by_cases c7 : (y : Int32) = 1
    · rw [if_pos c7] at h
      refine lv_tableIn (off := 34) (tgt := 52) hx hb dX11_lot_18 (by rw [c7]; decide) (by rw [c7]; decide) (by rw [c7]; rfl) (by decide) ?_
      refine lv_aload_n hx hb dX11_lot_52 rfl (lv_at hl 1 rfl) ?_
      refine rGet (k := 0) C hW (by decide) tm_Model rfl inX11 (by decide) fl_X11_7 rfl dX11_lot_53 ?_
      refine lv_iload_n hx hb dX11_lot_56 rfl (lv_at hl 0 rfl) ?_
      refine lv_iload_n hx hb dX11_lot_57 rfl (lv_at hl 3 rfl) ?_
      refine lv_iadd hx hb dX11_lot_58 ?_
      have s8 : vin (((9) + ((3) * (x))) + (y)) 1254 := Classical.byContradiction fun q9 => by rw [if_neg q9] at h; cases h
      rw [if_pos s8] at h
      refine rIld C hW (by decide) tm_s s8 dX11_lot_59 ?_
      cases h
      exact rI C hr hlk dX11_lot_60 hW hS ⟨rfl, rfl⟩
    rw [if_neg c7] at h
    by_cases c9 : (y : Int32) = 2
    · rw [if_pos c9] at h
      refine lv_tableIn (off := 43) (tgt := 61) hx hb dX11_lot_18 (by rw [c9]; decide) (by rw [c9]; decide) (by rw [c9]; rfl) (by decide) ?_
      refine lv_aload_n hx hb dX11_lot_61 rfl (lv_at hl 1 rfl) ?_
      refine lv_iload_n hx hb dX11_lot_62 rfl (lv_at hl 0 rfl) ?_
      obtain ⟨r10, M11, h12, h⟩ := bind2 h
      refine cBack C.2.2.2.2.2.2.2.2 (runV (As := [.int ((9) + ((3) * (x)))]) (rest := []) C hW hS (c_X11_weight l g M2 ((9) + ((3) * (x))) _ _ h12) kV_X11_weight ml_X11_88 (by decide) tm_Model rfl rfl rfl hl.1 rfl (Nat.le_of_ble_eq_true rfl) ⟨Nat.le_of_ble_eq_true rfl, Nat.le_of_ble_eq_true rfl⟩ ⟨Nat.zero_le _, Nat.zero_le _⟩ dX11_lot_63) hS (fun v0 w0 H locs hp hW hS => ?_)
      obtain ⟨rfl, rfl⟩ := hp
      cases h
      exact rI C hr hlk dX11_lot_66 hW hS ⟨rfl, rfl⟩
    rw [if_neg c9] at h
    by_cases c13 : (y : Int32) = 3
    · rw [if_pos c13] at h
      refine lv_tableIn (off := 49) (tgt := 67) hx hb dX11_lot_18 (by rw [c13]; decide) (by rw [c13]; decide) (by rw [c13]; rfl) (by decide) ?_
      refine lv_aload_n hx hb dX11_lot_67 rfl (lv_at hl 1 rfl) ?_
      refine lv_iload_n hx hb dX11_lot_68 rfl (lv_at hl 0 rfl) ?_
      obtain ⟨r14, M15, h16, h⟩ := bind2 h
      refine cBack C.2.2.2.2.2.2.2.2 (runV (As := [.int ((9) + ((3) * (x)))]) (rest := []) C hW hS (c_X11_alloy l g M2 ((9) + ((3) * (x))) _ _ h16) kV_X11_alloy ml_X11_98 (by decide) tm_Model rfl rfl rfl hl.1 rfl (Nat.le_of_ble_eq_true rfl) ⟨Nat.le_of_ble_eq_true rfl, Nat.le_of_ble_eq_true rfl⟩ ⟨Nat.zero_le _, Nat.zero_le _⟩ dX11_lot_69) hS (fun v0 w0 H locs hp hW hS => ?_)
      obtain ⟨rfl, rfl⟩ := hp
      cases h
      exact rI C hr hlk dX11_lot_72 hW hS ⟨rfl, rfl⟩
    rw [if_neg c13] at h
    by_cases c17 : (y : Int32) = 4
    · rw [if_pos c17] at h
      refine lv_tableIn (off := 55) (tgt := 73) hx hb dX11_lot_18 (by rw [c17]; decide) (by rw [c17]; decide) (by rw [c17]; rfl) (by decide) ?_
      refine lv_aload_n hx hb dX11_lot_73 rfl (lv_at hl 1 rfl) ?_
      refine rGet (k := 0) C hW (by decide) tm_Model rfl inX11 (by decide) fl_X11_7 rfl dX11_lot_74 ?_
      refine lv_iload_n hx hb dX11_lot_77 rfl (lv_at hl 0 rfl) ?_
      refine lv_iconst (v := 2) hx hb dX11_lot_78 (by decide) ?_
      refine lv_iadd hx hb dX11_lot_79 ?_
      have s18 : vin (((9) + ((3) * (x))) + (2)) 1254 := Classical.byContradiction fun q9 => by rw [if_neg q9] at h; cases h
      rw [if_pos s18] at h
      refine rIld C hW (by decide) tm_s s18 dX11_lot_80 ?_
      cases h
      exact rI C hr hlk dX11_lot_81 hW hS ⟨rfl, rfl⟩
    rw [if_neg c17] at h
    refine lv_tableOut (tgt := 82) hx hb dX11_lot_18 (by have nc5 := lv_neT (a := 0) c5 rfl; have nc7 := lv_neT (a := 1) c7 rfl; have nc9 := lv_neT (a := 2) c9 rfl; have nc13 := lv_neT (a := 3) c13 rfl; have nc17 := lv_neT (a := 4) c17 rfl; omega) (by decide) ?_
    refine lv_iconst (v := -1) hx hb dX11_lot_82 (by decide) ?_
    cases h
    exact rI C hr hlk dX11_lot_83 hW hS ⟨rfl, rfl⟩
  · rw [if_pos c4] at h
    refine lv_iconst (v := -1) hx hb dX11_lot_8 (by decide) ?_
    cases h
    exact rI C hr hlk dX11_lot_9 hW hS ⟨rfl, rfl⟩
def f_X11_melt (M : MM) (x : Int32) : Option (Int32 × MM) := (if vin (6) 1254 then (if vin (6) 1254 then (bnd2 (f_X11_burnt M (M 21 (6 : Int32).toNatClampNeg) 0) fun r3 M4 => (if vin (7) 1254 then (if vin (7) 1254 then (bnd2 (f_X11_burnt M4 (M4 21 (7 : Int32).toNatClampNeg) 1) fun r8 M9 => (if (x : Int32) = 0 then (if vin ((6) + (x)) 1254 then some (M9 21 ((6) + (x) : Int32).toNatClampNeg, M9) else none) else (if (x : Int32) = 1 then (if vin ((6) + (x)) 1254 then some (M9 21 ((6) + (x) : Int32).toNatClampNeg, M9) else none) else (if (x : Int32) = 2 then (bnd2 (f_X11_weight M9 6) fun r16 M17 => some (r16, M17)) else (if (x : Int32) = 3 then (bnd2 (f_X11_alloy M9 6) fun r20 M21 => some (r20, M21)) else (if (x : Int32) = 4 then some (((M 21 (6 : Int32).toNatClampNeg) - (r3)) + ((M4 21 (7 : Int32).toNatClampNeg) - (r8)), M9) else (if (x : Int32) = 5 then (bnd2 (f_X11_alloyOf M9 ((M 21 (6 : Int32).toNatClampNeg) - (r3)) ((M4 21 (7 : Int32).toNatClampNeg) - (r8))) fun r25 M26 => some (r25, M26)) else some (-1, M9)))))))) else none) else none)) else none) else none)
set_option maxHeartbeats 4000000 in
set_option maxRecDepth 100000 in
theorem c_X11_melt (l : Launch) (g : GD) (M : MM) (x : Int32) (r : Int32) (M2 : MM) (h : f_X11_melt M x = some (r, M2)) : Met l yX11_melt (wm yX11_melt cX11_melt 4 (some .int)) (RM 2 43) (va_Pc [rf g (1697), .int (x)] (WDp g M)) (QQ g (fun v w0 => v = .int r ∧ M2 = w0)) 0 0 (AA g) := by
  refine mkM (by decide +kernel) (Nat.le_of_ble_eq_true rfl) ?_
  intro p e s m below meth c C hr hlk hW hS ls hl
  have hl : lv_has ls 4 [(0, rf g (1697)), (1, .int (x))] := hl
  have hx := C.1
  have hb := C.2.1
  have hts := C.2.2.2.2.1
  unfold f_X11_melt at h
  refine lv_aload_n hx hb dX11_melt_0 rfl (lv_at hl 0 rfl) ?_
  refine rGet (k := 0) C hW (by decide) tm_Model rfl inX11 (by decide) fl_X11_7 rfl dX11_melt_1 ?_
  refine lv_bipush (v := 6) hx hb dX11_melt_4 (by decide) ?_
  have s1 : vin (6) 1254 := Classical.byContradiction fun q9 => by rw [if_neg q9] at h; cases h
  rw [if_pos s1] at h
  refine rIld C hW (by decide) tm_s s1 dX11_melt_6 ?_
  refine lv_aload_n hx hb dX11_melt_7 rfl (lv_at hl 0 rfl) ?_
  refine lv_aload_n hx hb dX11_melt_8 rfl (lv_at hl 0 rfl) ?_
  refine rGet (k := 0) C hW (by decide) tm_Model rfl inX11 (by decide) fl_X11_7 rfl dX11_melt_9 ?_
  refine lv_bipush (v := 6) hx hb dX11_melt_12 (by decide) ?_
  have s2 : vin (6) 1254 := Classical.byContradiction fun q9 => by rw [if_neg q9] at h; cases h
  rw [if_pos s2] at h
  refine rIld C hW (by decide) tm_s s2 dX11_melt_14 ?_
  refine lv_iconst (v := 0) hx hb dX11_melt_15 (by decide) ?_
  obtain ⟨r3, M4, h5, h⟩ := bind2 h
  refine cBack C.2.2.2.2.2.2.2.2 (runV (As := [.int (M 21 (6 : Int32).toNatClampNeg), .int (0)]) (rest := [.int (M 21 (6 : Int32).toNatClampNeg)]) C hW hS (c_X11_burnt l g M (M 21 (6 : Int32).toNatClampNeg) 0 _ _ h5) kV_X11_burnt ml_X11_65 (by decide) tm_Model rfl rfl rfl hl.1 rfl (Nat.le_of_ble_eq_true rfl) ⟨Nat.le_of_ble_eq_true rfl, Nat.le_of_ble_eq_true rfl⟩ ⟨Nat.zero_le _, Nat.zero_le _⟩ dX11_melt_16) hS (fun v0 w0 H locs hp hW hS => ?_)
  obtain ⟨rfl, rfl⟩ := hp
  refine lv_isub hx hb dX11_melt_19 ?_
  refine lv_istore_n (lv' := [(2, .int ((M 21 (6 : Int32).toNatClampNeg) - (r3))), (0, rf g (1697)), (1, .int (x))]) hx hb dX11_melt_20 rfl hl (by decide) rfl (fun ls hl => ?_)
  refine lv_aload_n hx hb dX11_melt_21 rfl (lv_at hl 1 rfl) ?_
  refine rGet (k := 0) C hW (by decide) tm_Model rfl inX11 (by decide) fl_X11_7 rfl dX11_melt_22 ?_
  refine lv_bipush (v := 7) hx hb dX11_melt_25 (by decide) ?_
  have s6 : vin (7) 1254 := Classical.byContradiction fun q9 => by rw [if_neg q9] at h; cases h
  rw [if_pos s6] at h
  refine rIld C hW (by decide) tm_s s6 dX11_melt_27 ?_
  refine lv_aload_n hx hb dX11_melt_28 rfl (lv_at hl 1 rfl) ?_
  refine lv_aload_n hx hb dX11_melt_29 rfl (lv_at hl 1 rfl) ?_
  refine rGet (k := 0) C hW (by decide) tm_Model rfl inX11 (by decide) fl_X11_7 rfl dX11_melt_30 ?_
  refine lv_bipush (v := 7) hx hb dX11_melt_33 (by decide) ?_
  have s7 : vin (7) 1254 := Classical.byContradiction fun q9 => by rw [if_neg q9] at h; cases h
  rw [if_pos s7] at h
  refine rIld C hW (by decide) tm_s s7 dX11_melt_35 ?_
  refine lv_iconst (v := 1) hx hb dX11_melt_36 (by decide) ?_
  obtain ⟨r8, M9, h10, h⟩ := bind2 h
  refine cBack C.2.2.2.2.2.2.2.2 (runV (As := [.int (M4 21 (7 : Int32).toNatClampNeg), .int (1)]) (rest := [.int (M4 21 (7 : Int32).toNatClampNeg)]) C hW hS (c_X11_burnt l g M4 (M4 21 (7 : Int32).toNatClampNeg) 1 _ _ h10) kV_X11_burnt ml_X11_65 (by decide) tm_Model rfl rfl rfl hl.1 rfl (Nat.le_of_ble_eq_true rfl) ⟨Nat.le_of_ble_eq_true rfl, Nat.le_of_ble_eq_true rfl⟩ ⟨Nat.zero_le _, Nat.zero_le _⟩ dX11_melt_37) hS (fun v0 w0 H locs hp hW hS => ?_)
  obtain ⟨rfl, rfl⟩ := hp
  refine lv_isub hx hb dX11_melt_40 ?_
  refine lv_istore_n (lv' := [(3, .int ((M4 21 (7 : Int32).toNatClampNeg) - (r8))), (2, .int ((M 21 (6 : Int32).toNatClampNeg) - (r3))), (0, rf g (1697)), (1, .int (x))]) hx hb dX11_melt_41 rfl hl (by decide) rfl (fun ls hl => ?_)
  refine lv_iload_n hx hb dX11_melt_42 rfl (lv_at hl 3 rfl) ?_
  by_cases c11 : (x : Int32) = 0
  · rw [if_pos c11] at h
    refine lv_tableIn (off := 37) (tgt := 80) hx hb dX11_melt_43 (by rw [c11]; decide) (by rw [c11]; decide) (by rw [c11]; rfl) (by decide) ?_
    refine lv_aload_n hx hb dX11_melt_80 rfl (lv_at hl 2 rfl) ?_
    refine rGet (k := 0) C hW (by decide) tm_Model rfl inX11 (by decide) fl_X11_7 rfl dX11_melt_81 ?_
    refine lv_bipush (v := 6) hx hb dX11_melt_84 (by decide) ?_
    refine lv_iload_n hx hb dX11_melt_86 rfl (lv_at hl 3 rfl) ?_
    refine lv_iadd hx hb dX11_melt_87 ?_
    have s12 : vin ((6) + (x)) 1254 := Classical.byContradiction fun q9 => by rw [if_neg q9] at h; cases h
    rw [if_pos s12] at h
    refine rIld C hW (by decide) tm_s s12 dX11_melt_88 ?_
    cases h
    exact rI C hr hlk dX11_melt_89 hW hS ⟨rfl, rfl⟩
  rw [if_neg c11] at h
  by_cases c13 : (x : Int32) = 1
  · rw [if_pos c13] at h
    refine lv_tableIn (off := 37) (tgt := 80) hx hb dX11_melt_43 (by rw [c13]; decide) (by rw [c13]; decide) (by rw [c13]; rfl) (by decide) ?_
    refine lv_aload_n hx hb dX11_melt_80 rfl (lv_at hl 2 rfl) ?_
    refine rGet (k := 0) C hW (by decide) tm_Model rfl inX11 (by decide) fl_X11_7 rfl dX11_melt_81 ?_
    refine lv_bipush (v := 6) hx hb dX11_melt_84 (by decide) ?_
    refine lv_iload_n hx hb dX11_melt_86 rfl (lv_at hl 3 rfl) ?_
    refine lv_iadd hx hb dX11_melt_87 ?_
    have s14 : vin ((6) + (x)) 1254 := Classical.byContradiction fun q9 => by rw [if_neg q9] at h; cases h
    rw [if_pos s14] at h
    refine rIld C hW (by decide) tm_s s14 dX11_melt_88 ?_
    cases h
    exact rI C hr hlk dX11_melt_89 hW hS ⟨rfl, rfl⟩
  rw [if_neg c13] at h
  by_cases c15 : (x : Int32) = 2
  · rw [if_pos c15] at h
    refine lv_tableIn (off := 47) (tgt := 90) hx hb dX11_melt_43 (by rw [c15]; decide) (by rw [c15]; decide) (by rw [c15]; rfl) (by decide) ?_
    refine lv_aload_n hx hb dX11_melt_90 rfl (lv_at hl 2 rfl) ?_
    refine lv_bipush (v := 6) hx hb dX11_melt_91 (by decide) ?_
    obtain ⟨r16, M17, h18, h⟩ := bind2 h
    refine cBack C.2.2.2.2.2.2.2.2 (runV (As := [.int (6)]) (rest := []) C hW hS (c_X11_weight l g M9 6 _ _ h18) kV_X11_weight ml_X11_88 (by decide) tm_Model rfl rfl rfl hl.1 rfl (Nat.le_of_ble_eq_true rfl) ⟨Nat.le_of_ble_eq_true rfl, Nat.le_of_ble_eq_true rfl⟩ ⟨Nat.zero_le _, Nat.zero_le _⟩ dX11_melt_93) hS (fun v0 w0 H locs hp hW hS => ?_)
    obtain ⟨rfl, rfl⟩ := hp
    cases h
    exact rI C hr hlk dX11_melt_96 hW hS ⟨rfl, rfl⟩
  rw [if_neg c15] at h
  by_cases c19 : (x : Int32) = 3
  · rw [if_pos c19] at h
    refine lv_tableIn (off := 54) (tgt := 97) hx hb dX11_melt_43 (by rw [c19]; decide) (by rw [c19]; decide) (by rw [c19]; rfl) (by decide) ?_
    refine lv_aload_n hx hb dX11_melt_97 rfl (lv_at hl 2 rfl) ?_
    refine lv_bipush (v := 6) hx hb dX11_melt_98 (by decide) ?_
    obtain ⟨r20, M21, h22, h⟩ := bind2 h
    refine cBack C.2.2.2.2.2.2.2.2 (runV (As := [.int (6)]) (rest := []) C hW hS (c_X11_alloy l g M9 6 _ _ h22) kV_X11_alloy ml_X11_98 (by decide) tm_Model rfl rfl rfl hl.1 rfl (Nat.le_of_ble_eq_true rfl) ⟨Nat.le_of_ble_eq_true rfl, Nat.le_of_ble_eq_true rfl⟩ ⟨Nat.zero_le _, Nat.zero_le _⟩ dX11_melt_100) hS (fun v0 w0 H locs hp hW hS => ?_)
    obtain ⟨rfl, rfl⟩ := hp
    cases h
    exact rI C hr hlk dX11_melt_103 hW hS ⟨rfl, rfl⟩
  rw [if_neg c19] at h
  by_cases c23 : (x : Int32) = 4
  · rw [if_pos c23] at h
    refine lv_tableIn (off := 61) (tgt := 104) hx hb dX11_melt_43 (by rw [c23]; decide) (by rw [c23]; decide) (by rw [c23]; rfl) (by decide) ?_
    refine lv_iload_n hx hb dX11_melt_104 rfl (lv_at hl 1 rfl) ?_
    refine lv_iload_n hx hb dX11_melt_105 rfl (lv_at hl 0 rfl) ?_
    refine lv_iadd hx hb dX11_melt_106 ?_
    cases h
    exact rI C hr hlk dX11_melt_107 hW hS ⟨rfl, rfl⟩
  rw [if_neg c23] at h
  by_cases c24 : (x : Int32) = 5
  · rw [if_pos c24] at h
    refine lv_tableIn (off := 65) (tgt := 108) hx hb dX11_melt_43 (by rw [c24]; decide) (by rw [c24]; decide) (by rw [c24]; rfl) (by decide) ?_
    refine lv_iload_n hx hb dX11_melt_108 rfl (lv_at hl 1 rfl) ?_
    refine lv_iload_n hx hb dX11_melt_109 rfl (lv_at hl 0 rfl) ?_
    obtain ⟨r25, M26, h27, h⟩ := bind2 h
    refine cBack C.2.2.2.2.2.2.2.2 (runS (As := [.int ((M 21 (6 : Int32).toNatClampNeg) - (r3)), .int ((M4 21 (7 : Int32).toNatClampNeg) - (r8))]) (rest := []) C hW hS (c_X11_alloyOf l g M9 ((M 21 (6 : Int32).toNatClampNeg) - (r3)) ((M4 21 (7 : Int32).toNatClampNeg) - (r8)) _ _ h27) kS_X11_alloyOf ml_X11_49 rfl hl.1 rfl (Nat.le_of_ble_eq_true rfl) ⟨Nat.le_of_ble_eq_true rfl, Nat.le_of_ble_eq_true rfl⟩ ⟨Nat.zero_le _, Nat.zero_le _⟩ dX11_melt_110) hS (fun v0 w0 H locs hp hW hS => ?_)
    obtain ⟨rfl, rfl⟩ := hp
    cases h
    exact rI C hr hlk dX11_melt_113 hW hS ⟨rfl, rfl⟩
  rw [if_neg c24] at h
  refine lv_tableOut (tgt := 114) hx hb dX11_melt_43 (by have nc11 := lv_neT (a := 0) c11 rfl; have nc13 := lv_neT (a := 1) c13 rfl; have nc15 := lv_neT (a := 2) c15 rfl; have nc19 := lv_neT (a := 3) c19 rfl; have nc23 := lv_neT (a := 4) c23 rfl; have nc24 := lv_neT (a := 5) c24 rfl; omega) (by decide) ?_
  refine lv_iconst (v := -1) hx hb dX11_melt_114 (by decide) ?_
  cases h
  exact rI C hr hlk dX11_melt_115 hW hS ⟨rfl, rfl⟩
def f_X11_mostOf (M : MM) (x : Int32) : Option (Int32 × MM) := (if (x : Int32) = 0 then some (50, M) else (if (x : Int32) = (1 : Int32) then some (100, M) else (if (4 : Int32) ≤ (x : Int32) then (if (x : Int32) = (4 : Int32) then some (300, M) else (if (x : Int32) = (5 : Int32) then some (50, M) else some (20000, M))) else some (1000, M))))
set_option maxHeartbeats 4000000 in
set_option maxRecDepth 100000 in
theorem c_X11_mostOf (l : Launch) (g : GD) (M : MM) (x : Int32) (r : Int32) (M2 : MM) (h : f_X11_mostOf M x = some (r, M2)) : Met l yX11_mostOf (wm yX11_mostOf cX11_mostOf 1 (some .int)) (RM 0 0) (va_Pc [.int (x)] (WDp g M)) (QQ g (fun v w0 => v = .int r ∧ M2 = w0)) 0 0 (AA g) := by
  refine mkM (by decide +kernel) (Nat.le_of_ble_eq_true rfl) ?_
  intro p e s m below meth c C hr hlk hW hS ls hl
  have hl : lv_has ls 1 [(0, .int (x))] := hl
  have hx := C.1
  have hb := C.2.1
  have hts := C.2.2.2.2.1
  unfold f_X11_mostOf at h
  refine lv_iload_n hx hb dX11_mostOf_0 rfl (lv_at hl 0 rfl) ?_
  refine lv_if_ne (tgt := 9) hx hb dX11_mostOf_1 (by decide) (fun c1 => ?_) (fun c1 => ?_)
  · rw [if_neg c1] at h
    refine lv_iload_n hx hb dX11_mostOf_9 rfl (lv_at hl 0 rfl) ?_
    refine lv_iconst (v := 1) hx hb dX11_mostOf_10 (by decide) ?_
    refine lv_icmp_ne (tgt := 19) hx hb dX11_mostOf_11 (by decide) (fun c2 => ?_) (fun c2 => ?_)
    · rw [if_neg c2] at h
      refine lv_iload_n hx hb dX11_mostOf_19 rfl (lv_at hl 0 rfl) ?_
      refine lv_iconst (v := 4) hx hb dX11_mostOf_20 (by decide) ?_
      refine lv_icmp_ge (tgt := 30) hx hb dX11_mostOf_21 (by decide) (fun c3 => ?_) (fun c3 => ?_)
      · rw [if_pos c3] at h
        refine lv_iload_n hx hb dX11_mostOf_30 rfl (lv_at hl 0 rfl) ?_
        refine lv_iconst (v := 4) hx hb dX11_mostOf_31 (by decide) ?_
        refine lv_icmp_ne (tgt := 41) hx hb dX11_mostOf_32 (by decide) (fun c4 => ?_) (fun c4 => ?_)
        · rw [if_neg c4] at h
          refine lv_iload_n hx hb dX11_mostOf_41 rfl (lv_at hl 0 rfl) ?_
          refine lv_iconst (v := 5) hx hb dX11_mostOf_42 (by decide) ?_
          refine lv_icmp_ne (tgt := 51) hx hb dX11_mostOf_43 (by decide) (fun c5 => ?_) (fun c5 => ?_)
          · rw [if_neg c5] at h
            refine lv_sipush (v := 20000) hx hb dX11_mostOf_51 (by decide) ?_
            cases h
            exact rI C hr hlk dX11_mostOf_54 hW hS ⟨rfl, rfl⟩
          · rw [if_pos c5] at h
            refine lv_bipush (v := 50) hx hb dX11_mostOf_46 (by decide) ?_
            refine lv_goto (tgt := 54) hx hb dX11_mostOf_48 (by decide) ?_
            cases h
            exact rI C hr hlk dX11_mostOf_54 hW hS ⟨rfl, rfl⟩
        · rw [if_pos c4] at h
          refine lv_sipush (v := 300) hx hb dX11_mostOf_35 (by decide) ?_
          refine lv_goto (tgt := 54) hx hb dX11_mostOf_38 (by decide) ?_
          cases h
          exact rI C hr hlk dX11_mostOf_54 hW hS ⟨rfl, rfl⟩
      · rw [if_neg c3] at h
        refine lv_sipush (v := 1000) hx hb dX11_mostOf_24 (by decide) ?_
        refine lv_goto (tgt := 54) hx hb dX11_mostOf_27 (by decide) ?_
        cases h
        exact rI C hr hlk dX11_mostOf_54 hW hS ⟨rfl, rfl⟩
    · rw [if_pos c2] at h
      refine lv_bipush (v := 100) hx hb dX11_mostOf_14 (by decide) ?_
      refine lv_goto (tgt := 54) hx hb dX11_mostOf_16 (by decide) ?_
      cases h
      exact rI C hr hlk dX11_mostOf_54 hW hS ⟨rfl, rfl⟩
  · rw [if_pos c1] at h
    refine lv_bipush (v := 50) hx hb dX11_mostOf_4 (by decide) ?_
    refine lv_goto (tgt := 54) hx hb dX11_mostOf_6 (by decide) ?_
    cases h
    exact rI C hr hlk dX11_mostOf_54 hW hS ⟨rfl, rfl⟩
def f_X11_set (M : MM) (x : Int32) (y : Int32) : Option (Int32 × MM) := (bnd2 (f_X11_in M x 0 6) fun r1 M2 => (if (r1 : Int32) = 0 then some (-1, M2) else (if (5 : Int32) ≤ (x : Int32) then (bnd2 (f_X11_mostOf M2 x) fun r6 M7 => (bnd2 (f_X11_in M7 y 1 r6) fun r9 M10 => (if (r9 : Int32) = 0 then some (-1, M10) else (bnd2 (f_X11_keeps M10 ) fun r13 M14 => (bnd2 (f_X11_setting M14 x) fun r16 M17 => (if vin ((45) + (x)) 1254 then (letB (up2 M17 21 ((45) + (x) : Int32).toNatClampNeg (y)) fun M20 => some (r16, M20)) else none)))))) else (bnd2 (f_X11_mostOf M2 x) fun r21 M22 => (bnd2 (f_X11_in M22 y 0 r21) fun r24 M25 => (if (r24 : Int32) = 0 then some (-1, M25) else (bnd2 (f_X11_keeps M25 ) fun r28 M29 => (bnd2 (f_X11_setting M29 x) fun r31 M32 => (if vin ((45) + (x)) 1254 then (letB (up2 M32 21 ((45) + (x) : Int32).toNatClampNeg (y)) fun M35 => some (r31, M35)) else none)))))))))
set_option maxHeartbeats 4000000 in
set_option maxRecDepth 100000 in
theorem c_X11_set (l : Launch) (g : GD) (M : MM) (x : Int32) (y : Int32) (r : Int32) (M2 : MM) (h : f_X11_set M x y = some (r, M2)) : Met l yX11_set (wm yX11_set cX11_set 4 (some .int)) (RM 1 22) (va_Pc [rf g (1697), .int (x), .int (y)] (WDp g M)) (QQ g (fun v w0 => v = .int r ∧ M2 = w0)) 0 0 (AA g) := by
  refine mkM (by decide +kernel) (Nat.le_of_ble_eq_true rfl) ?_
  intro p e s m below meth c C hr hlk hW hS ls hl
  have hl : lv_has ls 4 [(0, rf g (1697)), (1, .int (x)), (2, .int (y))] := hl
  have hx := C.1
  have hb := C.2.1
  have hts := C.2.2.2.2.1
  unfold f_X11_set at h
  refine lv_iload_n hx hb dX11_set_0 rfl (lv_at hl 1 rfl) ?_
  refine lv_iconst (v := 0) hx hb dX11_set_1 (by decide) ?_
  refine lv_bipush (v := 6) hx hb dX11_set_2 (by decide) ?_
  obtain ⟨r1, M2, h3, h⟩ := bind2 h
  refine cBack C.2.2.2.2.2.2.2.2 (runS (As := [.int (x), .int (0), .int (6)]) (rest := []) C hW hS (c_X11_in l g M x 0 6 _ _ h3) kS_X11_in ml_X11_68 rfl hl.1 rfl (Nat.le_of_ble_eq_true rfl) ⟨Nat.le_of_ble_eq_true rfl, Nat.le_of_ble_eq_true rfl⟩ ⟨Nat.zero_le _, Nat.zero_le _⟩ dX11_set_4) hS (fun v0 w0 H locs hp hW hS => ?_)
  obtain ⟨rfl, rfl, zr1⟩ := hp
  refine lv_if_eq (tgt := 31) hx hb dX11_set_7 (by decide) (fun c4 => ?_) (fun c4 => ?_)
  · rw [if_pos c4] at h
    refine lv_iconst (v := -1) hx hb dX11_set_31 (by decide) ?_
    cases h
    exact rI C hr hlk dX11_set_32 hW hS ⟨rfl, rfl⟩
  · rw [if_neg c4] at h
    refine lv_iload_n hx hb dX11_set_10 rfl (lv_at hl 2 rfl) ?_
    refine lv_iload_n hx hb dX11_set_11 rfl (lv_at hl 1 rfl) ?_
    refine lv_iconst (v := 5) hx hb dX11_set_12 (by decide) ?_
    refine lv_icmp_ge (tgt := 20) hx hb dX11_set_13 (by decide) (fun c5 => ?_) (fun c5 => ?_)
    · rw [if_pos c5] at h
      refine lv_iconst (v := 1) hx hb dX11_set_20 (by decide) ?_
      refine lv_iload_n hx hb dX11_set_21 rfl (lv_at hl 1 rfl) ?_
      obtain ⟨r6, M7, h8, h⟩ := bind2 h
      refine cBack C.2.2.2.2.2.2.2.2 (runS (As := [.int (x)]) (rest := [.int (1), .int (y)]) C hW hS (c_X11_mostOf l g M2 x _ _ h8) kS_X11_mostOf ml_X11_101 rfl hl.1 rfl (Nat.le_of_ble_eq_true rfl) ⟨Nat.le_of_ble_eq_true rfl, Nat.le_of_ble_eq_true rfl⟩ ⟨Nat.zero_le _, Nat.zero_le _⟩ dX11_set_22) hS (fun v0 w0 H locs hp hW hS => ?_)
      obtain ⟨rfl, rfl⟩ := hp
      obtain ⟨r9, M10, h11, h⟩ := bind2 h
      refine cBack C.2.2.2.2.2.2.2.2 (runS (As := [.int (y), .int (1), .int (r6)]) (rest := []) C hW hS (c_X11_in l g M7 y 1 r6 _ _ h11) kS_X11_in ml_X11_68 rfl hl.1 rfl (Nat.le_of_ble_eq_true rfl) ⟨Nat.le_of_ble_eq_true rfl, Nat.le_of_ble_eq_true rfl⟩ ⟨Nat.zero_le _, Nat.zero_le _⟩ dX11_set_25) hS (fun v0 w0 H locs hp hW hS => ?_)
      obtain ⟨rfl, rfl, zr9⟩ := hp
      refine lv_if_ne (tgt := 33) hx hb dX11_set_28 (by decide) (fun c12 => ?_) (fun c12 => ?_)
      · rw [if_neg c12] at h
        refine lv_aload_n hx hb dX11_set_33 rfl (lv_at hl 0 rfl) ?_
        obtain ⟨r13, M14, h15, h⟩ := bind2 h
        refine cBackV C.2.2.2.2.2.2.2.2 (runV (As := []) (rest := []) C hW hS (c_X11_keeps l g M10  _ _ h15) kV_X11_keeps ml_X11_85 (by decide) tm_Model rfl rfl rfl hl.1 rfl (Nat.le_of_ble_eq_true rfl) ⟨Nat.le_of_ble_eq_true rfl, Nat.le_of_ble_eq_true rfl⟩ ⟨Nat.zero_le _, Nat.zero_le _⟩ dX11_set_34) hS (fun v0 H locs hp hW hS => ?_)
        subst hp
        refine lv_aload_n hx hb dX11_set_37 rfl (lv_at hl 0 rfl) ?_
        refine lv_iload_n hx hb dX11_set_38 rfl (lv_at hl 1 rfl) ?_
        obtain ⟨r16, M17, h18, h⟩ := bind2 h
        refine cBack C.2.2.2.2.2.2.2.2 (runV (As := [.int (x)]) (rest := []) C hW hS (c_X11_setting l g M14 x _ _ h18) kV_X11_setting ml_X11_61 (by decide) tm_Model rfl rfl rfl hl.1 rfl (Nat.le_of_ble_eq_true rfl) ⟨Nat.le_of_ble_eq_true rfl, Nat.le_of_ble_eq_true rfl⟩ ⟨Nat.zero_le _, Nat.zero_le _⟩ dX11_set_39) hS (fun v0 w0 H locs hp hW hS => ?_)
        obtain ⟨rfl, rfl⟩ := hp
        refine lv_istore_n (lv' := [(3, .int (r16)), (0, rf g (1697)), (1, .int (x)), (2, .int (y))]) hx hb dX11_set_42 rfl hl (by decide) rfl (fun ls hl => ?_)
        refine lv_aload_n hx hb dX11_set_43 rfl (lv_at hl 1 rfl) ?_
        refine rGet (k := 0) C hW (by decide) tm_Model rfl inX11 (by decide) fl_X11_7 rfl dX11_set_44 ?_
        refine lv_bipush (v := 45) hx hb dX11_set_47 (by decide) ?_
        refine lv_iload_n hx hb dX11_set_49 rfl (lv_at hl 2 rfl) ?_
        refine lv_iadd hx hb dX11_set_50 ?_
        refine lv_iload_n hx hb dX11_set_51 rfl (lv_at hl 3 rfl) ?_
        have s19 : vin ((45) + (x)) 1254 := Classical.byContradiction fun q9 => by rw [if_neg q9] at h; cases h
        rw [if_pos s19] at h
        refine rIst (M' := up2 M17 21 ((45) + (x) : Int32).toNatClampNeg (y)) C hW hS (by decide) tm_s s19 (UPD_G (by decide) rfl (by rw [tm_s, up2_gr])) dX11_set_52 (fun H locs hW hS => ?_)
        have hW : Wd g (up2 M17 21 ((45) + (x) : Int32).toNatClampNeg (y)) H := hW
        have h := letE h
        generalize up2 M17 21 ((45) + (x) : Int32).toNatClampNeg (y) = M20 at hW h
        refine lv_iload_n hx hb dX11_set_53 rfl (lv_at hl 0 rfl) ?_
        cases h
        exact rI C hr hlk dX11_set_54 hW hS ⟨rfl, rfl⟩
      · rw [if_pos c12] at h
        refine lv_iconst (v := -1) hx hb dX11_set_31 (by decide) ?_
        cases h
        exact rI C hr hlk dX11_set_32 hW hS ⟨rfl, rfl⟩
    · rw [if_neg c5] at h
      refine lv_iconst (v := 0) hx hb dX11_set_16 (by decide) ?_
      refine lv_goto (tgt := 21) hx hb dX11_set_17 (by decide) ?_
      refine lv_iload_n hx hb dX11_set_21 rfl (lv_at hl 1 rfl) ?_
      obtain ⟨r21, M22, h23, h⟩ := bind2 h
      refine cBack C.2.2.2.2.2.2.2.2 (runS (As := [.int (x)]) (rest := [.int (0), .int (y)]) C hW hS (c_X11_mostOf l g M2 x _ _ h23) kS_X11_mostOf ml_X11_101 rfl hl.1 rfl (Nat.le_of_ble_eq_true rfl) ⟨Nat.le_of_ble_eq_true rfl, Nat.le_of_ble_eq_true rfl⟩ ⟨Nat.zero_le _, Nat.zero_le _⟩ dX11_set_22) hS (fun v0 w0 H locs hp hW hS => ?_)
      obtain ⟨rfl, rfl⟩ := hp
      obtain ⟨r24, M25, h26, h⟩ := bind2 h
      refine cBack C.2.2.2.2.2.2.2.2 (runS (As := [.int (y), .int (0), .int (r21)]) (rest := []) C hW hS (c_X11_in l g M22 y 0 r21 _ _ h26) kS_X11_in ml_X11_68 rfl hl.1 rfl (Nat.le_of_ble_eq_true rfl) ⟨Nat.le_of_ble_eq_true rfl, Nat.le_of_ble_eq_true rfl⟩ ⟨Nat.zero_le _, Nat.zero_le _⟩ dX11_set_25) hS (fun v0 w0 H locs hp hW hS => ?_)
      obtain ⟨rfl, rfl, zr24⟩ := hp
      refine lv_if_ne (tgt := 33) hx hb dX11_set_28 (by decide) (fun c27 => ?_) (fun c27 => ?_)
      · rw [if_neg c27] at h
        refine lv_aload_n hx hb dX11_set_33 rfl (lv_at hl 0 rfl) ?_
        obtain ⟨r28, M29, h30, h⟩ := bind2 h
        refine cBackV C.2.2.2.2.2.2.2.2 (runV (As := []) (rest := []) C hW hS (c_X11_keeps l g M25  _ _ h30) kV_X11_keeps ml_X11_85 (by decide) tm_Model rfl rfl rfl hl.1 rfl (Nat.le_of_ble_eq_true rfl) ⟨Nat.le_of_ble_eq_true rfl, Nat.le_of_ble_eq_true rfl⟩ ⟨Nat.zero_le _, Nat.zero_le _⟩ dX11_set_34) hS (fun v0 H locs hp hW hS => ?_)
        subst hp
        refine lv_aload_n hx hb dX11_set_37 rfl (lv_at hl 0 rfl) ?_
        refine lv_iload_n hx hb dX11_set_38 rfl (lv_at hl 1 rfl) ?_
        obtain ⟨r31, M32, h33, h⟩ := bind2 h
        refine cBack C.2.2.2.2.2.2.2.2 (runV (As := [.int (x)]) (rest := []) C hW hS (c_X11_setting l g M29 x _ _ h33) kV_X11_setting ml_X11_61 (by decide) tm_Model rfl rfl rfl hl.1 rfl (Nat.le_of_ble_eq_true rfl) ⟨Nat.le_of_ble_eq_true rfl, Nat.le_of_ble_eq_true rfl⟩ ⟨Nat.zero_le _, Nat.zero_le _⟩ dX11_set_39) hS (fun v0 w0 H locs hp hW hS => ?_)
        obtain ⟨rfl, rfl⟩ := hp
        refine lv_istore_n (lv' := [(3, .int (r31)), (0, rf g (1697)), (1, .int (x)), (2, .int (y))]) hx hb dX11_set_42 rfl hl (by decide) rfl (fun ls hl => ?_)
        refine lv_aload_n hx hb dX11_set_43 rfl (lv_at hl 1 rfl) ?_
        refine rGet (k := 0) C hW (by decide) tm_Model rfl inX11 (by decide) fl_X11_7 rfl dX11_set_44 ?_
        refine lv_bipush (v := 45) hx hb dX11_set_47 (by decide) ?_
        refine lv_iload_n hx hb dX11_set_49 rfl (lv_at hl 2 rfl) ?_
        refine lv_iadd hx hb dX11_set_50 ?_
        refine lv_iload_n hx hb dX11_set_51 rfl (lv_at hl 3 rfl) ?_
        have s34 : vin ((45) + (x)) 1254 := Classical.byContradiction fun q9 => by rw [if_neg q9] at h; cases h
        rw [if_pos s34] at h
        refine rIst (M' := up2 M32 21 ((45) + (x) : Int32).toNatClampNeg (y)) C hW hS (by decide) tm_s s34 (UPD_G (by decide) rfl (by rw [tm_s, up2_gr])) dX11_set_52 (fun H locs hW hS => ?_)
        have hW : Wd g (up2 M32 21 ((45) + (x) : Int32).toNatClampNeg (y)) H := hW
        have h := letE h
        generalize up2 M32 21 ((45) + (x) : Int32).toNatClampNeg (y) = M35 at hW h
        refine lv_iload_n hx hb dX11_set_53 rfl (lv_at hl 0 rfl) ?_
        cases h
        exact rI C hr hlk dX11_set_54 hW hS ⟨rfl, rfl⟩
      · rw [if_pos c27] at h
        refine lv_iconst (v := -1) hx hb dX11_set_31 (by decide) ?_
        cases h
        exact rI C hr hlk dX11_set_32 hW hS ⟨rfl, rfl⟩
def f_X11_isBell (M : MM) (x : Int32) : Option (Int32 × MM) := (if vin (52) 1254 then (bnd2 (f_X11_in M x 0 ((M 21 (52 : Int32).toNatClampNeg) - (1))) fun r2 M3 => some (r2, M3)) else none)
set_option maxHeartbeats 4000000 in
set_option maxRecDepth 100000 in
theorem c_X11_isBell (l : Launch) (g : GD) (M : MM) (x : Int32) (r : Int32) (M2 : MM) (h : f_X11_isBell M x = some (r, M2)) : Met l yX11_isBell (wm yX11_isBell cX11_isBell 2 (some .boolean)) (RM 1 22) (va_Pc [rf g (1697), .int (x)] (WDp g M)) (QQ g (fun v w0 => v = .int r ∧ M2 = w0 ∧ (r = 0 ∨ r = 1))) 0 0 (AA g) := by
  refine mkM (by decide +kernel) (Nat.le_of_ble_eq_true rfl) ?_
  intro p e s m below meth c C hr hlk hW hS ls hl
  have hl : lv_has ls 2 [(0, rf g (1697)), (1, .int (x))] := hl
  have hx := C.1
  have hb := C.2.1
  have hts := C.2.2.2.2.1
  unfold f_X11_isBell at h
  refine lv_iload_n hx hb dX11_isBell_0 rfl (lv_at hl 1 rfl) ?_
  refine lv_iconst (v := 0) hx hb dX11_isBell_1 (by decide) ?_
  refine lv_aload_n hx hb dX11_isBell_2 rfl (lv_at hl 0 rfl) ?_
  refine rGet (k := 0) C hW (by decide) tm_Model rfl inX11 (by decide) fl_X11_7 rfl dX11_isBell_3 ?_
  refine lv_bipush (v := 52) hx hb dX11_isBell_6 (by decide) ?_
  have s1 : vin (52) 1254 := Classical.byContradiction fun q9 => by rw [if_neg q9] at h; cases h
  rw [if_pos s1] at h
  refine rIld C hW (by decide) tm_s s1 dX11_isBell_8 ?_
  refine lv_iconst (v := 1) hx hb dX11_isBell_9 (by decide) ?_
  refine lv_isub hx hb dX11_isBell_10 ?_
  obtain ⟨r2, M3, h4, h⟩ := bind2 h
  refine cBack C.2.2.2.2.2.2.2.2 (runS (As := [.int (x), .int (0), .int ((M 21 (52 : Int32).toNatClampNeg) - (1))]) (rest := []) C hW hS (c_X11_in l g M x 0 ((M 21 (52 : Int32).toNatClampNeg) - (1)) _ _ h4) kS_X11_in ml_X11_68 rfl hl.1 rfl (Nat.le_of_ble_eq_true rfl) ⟨Nat.le_of_ble_eq_true rfl, Nat.le_of_ble_eq_true rfl⟩ ⟨Nat.zero_le _, Nat.zero_le _⟩ dX11_isBell_11) hS (fun v0 w0 H locs hp hW hS => ?_)
  obtain ⟨rfl, rfl, zr2⟩ := hp
  cases h
  exact rZ C hr hlk dX11_isBell_14 hW hS (nar01 zr2) ⟨rfl, rfl, zr2⟩
def f_X11_atBell (M : MM) (x : Int32) : Option (Int32 × MM) := some ((54) + ((8) * (x)), M)
set_option maxHeartbeats 4000000 in
set_option maxRecDepth 100000 in
theorem c_X11_atBell (l : Launch) (g : GD) (M : MM) (x : Int32) (r : Int32) (M2 : MM) (h : f_X11_atBell M x = some (r, M2)) : Met l yX11_atBell (wm yX11_atBell cX11_atBell 1 (some .int)) (RM 0 0) (va_Pc [.int (x)] (WDp g M)) (QQ g (fun v w0 => v = .int r ∧ M2 = w0)) 0 0 (AA g) := by
  refine mkM (by decide +kernel) (Nat.le_of_ble_eq_true rfl) ?_
  intro p e s m below meth c C hr hlk hW hS ls hl
  have hl : lv_has ls 1 [(0, .int (x))] := hl
  have hx := C.1
  have hb := C.2.1
  have hts := C.2.2.2.2.1
  unfold f_X11_atBell at h
  refine lv_bipush (v := 54) hx hb dX11_atBell_0 (by decide) ?_
  refine lv_bipush (v := 8) hx hb dX11_atBell_2 (by decide) ?_
  refine lv_iload_n hx hb dX11_atBell_4 rfl (lv_at hl 0 rfl) ?_
  refine lv_imul hx hb dX11_atBell_5 ?_
  refine lv_iadd hx hb dX11_atBell_6 ?_
  cases h
  exact rI C hr hlk dX11_atBell_7 hW hS ⟨rfl, rfl⟩
def f_X11_of (M : MM) (x : Int32) (y : Int32) : Option (Int32 × MM) := (if vin (((54) + ((8) * (x))) + (y)) 1254 then some (M 21 (((54) + ((8) * (x))) + (y) : Int32).toNatClampNeg, M) else none)
set_option maxHeartbeats 4000000 in
set_option maxRecDepth 100000 in
theorem c_X11_of (l : Launch) (g : GD) (M : MM) (x : Int32) (y : Int32) (r : Int32) (M2 : MM) (h : f_X11_of M x y = some (r, M2)) : Met l yX11_of (wm yX11_of cX11_of 3 (some .int)) (RM 0 0) (va_Pc [rf g (1697), .int (x), .int (y)] (WDp g M)) (QQ g (fun v w0 => v = .int r ∧ M2 = w0)) 0 0 (AA g) := by
  refine mkM (by decide +kernel) (Nat.le_of_ble_eq_true rfl) ?_
  intro p e s m below meth c C hr hlk hW hS ls hl
  have hl : lv_has ls 3 [(0, rf g (1697)), (1, .int (x)), (2, .int (y))] := hl
  have hx := C.1
  have hb := C.2.1
  have hts := C.2.2.2.2.1
  unfold f_X11_of at h
  refine lv_aload_n hx hb dX11_of_0 rfl (lv_at hl 0 rfl) ?_
  refine rGet (k := 0) C hW (by decide) tm_Model rfl inX11 (by decide) fl_X11_7 rfl dX11_of_1 ?_
  refine lv_bipush (v := 54) hx hb dX11_of_4 (by decide) ?_
  refine lv_bipush (v := 8) hx hb dX11_of_6 (by decide) ?_
  refine lv_iload_n hx hb dX11_of_8 rfl (lv_at hl 1 rfl) ?_
  refine lv_imul hx hb dX11_of_9 ?_
  refine lv_iadd hx hb dX11_of_10 ?_
  refine lv_iload_n hx hb dX11_of_11 rfl (lv_at hl 2 rfl) ?_
  refine lv_iadd hx hb dX11_of_12 ?_
  have s1 : vin (((54) + ((8) * (x))) + (y)) 1254 := Classical.byContradiction fun q9 => by rw [if_neg q9] at h; cases h
  rw [if_pos s1] at h
  refine rIld C hW (by decide) tm_s s1 dX11_of_13 ?_
  cases h
  exact rI C hr hlk dX11_of_14 hW hS ⟨rfl, rfl⟩
def f_X11_isHere (M : MM) (x : Int32) : Option (Int32 × MM) := (bnd2 (f_X11_of M x 6) fun r1 M2 => (if (2 : Int32) ≤ (r1 : Int32) then some (0, M2) else some (1, M2)))
set_option maxHeartbeats 4000000 in
set_option maxRecDepth 100000 in
theorem c_X11_isHere (l : Launch) (g : GD) (M : MM) (x : Int32) (r : Int32) (M2 : MM) (h : f_X11_isHere M x = some (r, M2)) : Met l yX11_isHere (wm yX11_isHere cX11_isHere 2 (some .boolean)) (RM 1 22) (va_Pc [rf g (1697), .int (x)] (WDp g M)) (QQ g (fun v w0 => v = .int r ∧ M2 = w0 ∧ (r = 0 ∨ r = 1))) 0 0 (AA g) := by
  refine mkM (by decide +kernel) (Nat.le_of_ble_eq_true rfl) ?_
  intro p e s m below meth c C hr hlk hW hS ls hl
  have hl : lv_has ls 2 [(0, rf g (1697)), (1, .int (x))] := hl
  have hx := C.1
  have hb := C.2.1
  have hts := C.2.2.2.2.1
  unfold f_X11_isHere at h
  refine lv_aload_n hx hb dX11_isHere_0 rfl (lv_at hl 0 rfl) ?_
  refine lv_iload_n hx hb dX11_isHere_1 rfl (lv_at hl 1 rfl) ?_
  refine lv_bipush (v := 6) hx hb dX11_isHere_2 (by decide) ?_
  obtain ⟨r1, M2, h3, h⟩ := bind2 h
  refine cBack C.2.2.2.2.2.2.2.2 (runV (As := [.int (x), .int (6)]) (rest := []) C hW hS (c_X11_of l g M x 6 _ _ h3) kV_X11_of ml_X11_104 (by decide) tm_Model rfl rfl rfl hl.1 rfl (Nat.le_of_ble_eq_true rfl) ⟨Nat.le_of_ble_eq_true rfl, Nat.le_of_ble_eq_true rfl⟩ ⟨Nat.zero_le _, Nat.zero_le _⟩ dX11_isHere_4) hS (fun v0 w0 H locs hp hW hS => ?_)
  obtain ⟨rfl, rfl⟩ := hp
  refine lv_iconst (v := 2) hx hb dX11_isHere_7 (by decide) ?_
  refine lv_icmp_ge (tgt := 15) hx hb dX11_isHere_8 (by decide) (fun c4 => ?_) (fun c4 => ?_)
  · rw [if_pos c4] at h
    refine lv_iconst (v := 0) hx hb dX11_isHere_15 (by decide) ?_
    cases h
    exact rZ C hr hlk dX11_isHere_16 hW hS (nar01 (Or.inl rfl)) ⟨rfl, rfl, (Or.inl rfl)⟩
  · rw [if_neg c4] at h
    refine lv_iconst (v := 1) hx hb dX11_isHere_11 (by decide) ?_
    refine lv_goto (tgt := 16) hx hb dX11_isHere_12 (by decide) ?_
    cases h
    exact rZ C hr hlk dX11_isHere_16 hW hS (nar01 (Or.inr rfl)) ⟨rfl, rfl, (Or.inr rfl)⟩
def lp_X11_here_4 (fu : Nat) (M : MM)  (u : Int32) (z : Int32) : Option (Int32 × MM) := match fu with
  | 0 => none
  | n + 1 => (if vin (52) 1254 then (if (M 21 (52 : Int32).toNatClampNeg : Int32) ≤ (z : Int32) then some (u, M) else (bnd2 (f_X11_isHere M z) fun r1003 M1004 => (if (r1003 : Int32) = 0 then (lp_X11_here_4 n M1004   ((u) + (0)) (z + 1)) else (lp_X11_here_4 n M1004   ((u) + (1)) (z + 1))))) else none)
def f_X11_here (M : MM)  : Option (Int32 × MM) := (lp_X11_here_4 FU M   0 0)
set_option maxHeartbeats 4000000 in
set_option maxRecDepth 100000 in
theorem t_X11_here_4 (l : Launch) (g : GD) {p : Program} {e : Env} {s : State} {m : MethodId} {av : Array Value} {below : List Frame} {meth : Method} {c : Code}  (n : Nat) : ∀ (M : MM) (u : Int32) (z : Int32) (r : Int32) (M2 : MM), lp_X11_here_4 n M   u z = some (r, M2) → CX p s m av c cX11_here 3 RX11 g → meth.sig.returnType = (some .int) → meth.locks = false → ∀ (H : Heap) (locs : List Loc), Wd g M H → sS g s H locs → ∀ ls : Array Slot, lv_has ls 3 [(0, rf g (1697)), (1, .int (u)), (2, .int (z))] → W p l e (RM 2 43) s m av below meth c H locs 0 0 (MQ below (QQ g (fun v w0 => v = .int r ∧ M2 = w0)) av s 0 0 (AA g)) (F0 m 4 ls []) := by
  induction n with
  | zero => intro M u z r M2 h; cases h
  | succ n ih0 =>
    intro M u z r M2 h C hr hlk H locs hW hS ls hl
    have ih : ∀ (M : MM) (u : Int32) (z : Int32), lp_X11_here_4 n M   u z = some (r, M2) → ∀ (H : Heap) (locs : List Loc), Wd g M H → sS g s H locs → ∀ ls : Array Slot, lv_has ls 3 [(0, rf g (1697)), (1, .int (u)), (2, .int (z))] → W p l e (RM 2 43) s m av below meth c H locs 0 0 (MQ below (QQ g (fun v w0 => v = .int r ∧ M2 = w0)) av s 0 0 (AA g)) (F0 m 4 ls []) := fun M u z h H locs hW hS ls hl => ih0 M u z r M2 h C hr hlk H locs hW hS ls hl
    unfold lp_X11_here_4 at h
    try dsimp only at h
    have hx := C.1
    have hb := C.2.1
    have hts := C.2.2.2.2.1
    refine lv_iload_n hx hb dX11_here_4 rfl (lv_at hl 2 rfl) ?_
    refine lv_aload_n hx hb dX11_here_5 rfl (lv_at hl 0 rfl) ?_
    refine rGet (k := 0) C hW (by decide) tm_Model rfl inX11 (by decide) fl_X11_7 rfl dX11_here_6 ?_
    refine lv_bipush (v := 52) hx hb dX11_here_9 (by decide) ?_
    have s1001 : vin (52) 1254 := Classical.byContradiction fun q9 => by rw [if_neg q9] at h; cases h
    rw [if_pos s1001] at h
    refine rIld C hW (by decide) tm_s s1001 dX11_here_11 ?_
    refine lv_icmp_ge (tgt := 37) hx hb dX11_here_12 (by decide) (fun c1002 => ?_) (fun c1002 => ?_)
    · rw [if_pos c1002] at h
      refine lv_iload_n hx hb dX11_here_37 rfl (lv_at hl 1 rfl) ?_
      cases h
      exact rI C hr hlk dX11_here_38 hW hS ⟨rfl, rfl⟩
    · rw [if_neg c1002] at h
      refine lv_iload_n hx hb dX11_here_15 rfl (lv_at hl 1 rfl) ?_
      refine lv_aload_n hx hb dX11_here_16 rfl (lv_at hl 0 rfl) ?_
      refine lv_iload_n hx hb dX11_here_17 rfl (lv_at hl 2 rfl) ?_
      obtain ⟨r1003, M1004, h1005, h⟩ := bind2 h
      refine cBack C.2.2.2.2.2.2.2.2 (runV (As := [.int (z)]) (rest := [.int (u)]) C hW hS (c_X11_isHere l g M z _ _ h1005) kV_X11_isHere ml_X11_107 (by decide) tm_Model rfl rfl rfl hl.1 rfl (Nat.le_of_ble_eq_true rfl) ⟨Nat.le_of_ble_eq_true rfl, Nat.le_of_ble_eq_true rfl⟩ ⟨Nat.zero_le _, Nat.zero_le _⟩ dX11_here_18) hS (fun v0 w0 H locs hp hW hS => ?_)
      obtain ⟨rfl, rfl, zr1003⟩ := hp
      refine lv_if_eq (tgt := 28) hx hb dX11_here_21 (by decide) (fun c1006 => ?_) (fun c1006 => ?_)
      · rw [if_pos c1006] at h
        refine lv_iconst (v := 0) hx hb dX11_here_28 (by decide) ?_
        refine lv_iadd hx hb dX11_here_29 ?_
        refine lv_istore_n (lv' := [(1, .int ((u) + (0))), (0, rf g (1697)), (2, .int (z))]) hx hb dX11_here_30 rfl hl (by decide) rfl (fun ls hl => ?_)
        refine lv_iinc (v := z + 1) (lv' := [(2, .int (z + 1)), (1, .int ((u) + (0))), (0, rf g (1697))]) hx hb dX11_here_31 hl (k := 2) rfl rfl (by decide) rfl (fun ls hl => ?_)
        refine lv_goto (tgt := 4) hx hb dX11_here_34 (by decide) ?_
        exact ih M1004 ((u) + (0)) (z + 1) h _ _ hW hS ls (lv_sub hl [2, 1, 0] rfl)
      · rw [if_neg c1006] at h
        refine lv_iconst (v := 1) hx hb dX11_here_24 (by decide) ?_
        refine lv_goto (tgt := 29) hx hb dX11_here_25 (by decide) ?_
        refine lv_iadd hx hb dX11_here_29 ?_
        refine lv_istore_n (lv' := [(1, .int ((u) + (1))), (0, rf g (1697)), (2, .int (z))]) hx hb dX11_here_30 rfl hl (by decide) rfl (fun ls hl => ?_)
        refine lv_iinc (v := z + 1) (lv' := [(2, .int (z + 1)), (1, .int ((u) + (1))), (0, rf g (1697))]) hx hb dX11_here_31 hl (k := 2) rfl rfl (by decide) rfl (fun ls hl => ?_)
        refine lv_goto (tgt := 4) hx hb dX11_here_34 (by decide) ?_
        exact ih M1004 ((u) + (1)) (z + 1) h _ _ hW hS ls (lv_sub hl [2, 1, 0] rfl)
set_option maxHeartbeats 4000000 in
set_option maxRecDepth 100000 in
theorem c_X11_here (l : Launch) (g : GD) (M : MM)  (r : Int32) (M2 : MM) (h : f_X11_here M  = some (r, M2)) : Met l yX11_here (wm yX11_here cX11_here 3 (some .int)) (RM 2 43) (va_Pc [rf g (1697)] (WDp g M)) (QQ g (fun v w0 => v = .int r ∧ M2 = w0)) 0 0 (AA g) := by
  refine mkM (by decide +kernel) (Nat.le_of_ble_eq_true rfl) ?_
  intro p e s m below meth c C hr hlk hW hS ls hl
  have hl : lv_has ls 3 [(0, rf g (1697))] := hl
  have hx := C.1
  have hb := C.2.1
  have hts := C.2.2.2.2.1
  unfold f_X11_here at h
  refine lv_iconst (v := 0) hx hb dX11_here_0 (by decide) ?_
  refine lv_istore_n (lv' := [(1, .int (0)), (0, rf g (1697))]) hx hb dX11_here_1 rfl hl (by decide) rfl (fun ls hl => ?_)
  refine lv_iconst (v := 0) hx hb dX11_here_2 (by decide) ?_
  refine lv_istore_n (lv' := [(2, .int (0)), (1, .int (0)), (0, rf g (1697))]) hx hb dX11_here_3 rfl hl (by decide) rfl (fun ls hl => ?_)
  exact t_X11_here_4 l g    FU M 0 0 _ _ h C hr hlk _ _ hW hS ls (lv_sub hl [2, 1, 0] rfl)
def lp_X11_root_6 (fu : Nat) (M : MM)  (x : Int64) (u : Int32) (z : Int32) : Option (Int32 × MM) := match fu with
  | 0 => none
  | n + 1 => (if (z : Int32) ≤ 0 then some (u, M) else (if 0 < (lg_cmp (((Int32.toInt64 ((u) + (z))) * (Int32.toInt64 ((u) + (z)))) * (Int32.toInt64 ((u) + (z)))) (x) : Int32) then (lp_X11_root_6 n M   x u ((z) / (2))) else (lp_X11_root_6 n M   x ((u) + (z)) ((z) / (2)))))
def f_X11_root (M : MM) (x : Int64) : Option (Int32 × MM) := (lp_X11_root_6 FU M   x 0 2048)
set_option maxHeartbeats 4000000 in
set_option maxRecDepth 100000 in
theorem t_X11_root_6 (l : Launch) (g : GD) {p : Program} {e : Env} {s : State} {m : MethodId} {av : Array Value} {below : List Frame} {meth : Method} {c : Code}  (n : Nat) : ∀ (M : MM) (x : Int64) (u : Int32) (z : Int32) (r : Int32) (M2 : MM), lp_X11_root_6 n M   x u z = some (r, M2) → CX p s m av c cX11_root 6 RX11 g → meth.sig.returnType = (some .int) → meth.locks = false → ∀ (H : Heap) (locs : List Loc), Wd g M H → sS g s H locs → ∀ ls : Array Slot, lv_has ls 6 [(0, .long (x)), (2, .int (u)), (3, .int (z))] → W p l e (RM 0 0) s m av below meth c H locs 0 0 (MQ below (QQ g (fun v w0 => v = .int r ∧ M2 = w0)) av s 0 0 (AA g)) (F0 m 6 ls []) := by
  induction n with
  | zero => intro M x u z r M2 h; cases h
  | succ n ih0 =>
    intro M x u z r M2 h C hr hlk H locs hW hS ls hl
    have ih : ∀ (M : MM) (x : Int64) (u : Int32) (z : Int32), lp_X11_root_6 n M   x u z = some (r, M2) → ∀ (H : Heap) (locs : List Loc), Wd g M H → sS g s H locs → ∀ ls : Array Slot, lv_has ls 6 [(0, .long (x)), (2, .int (u)), (3, .int (z))] → W p l e (RM 0 0) s m av below meth c H locs 0 0 (MQ below (QQ g (fun v w0 => v = .int r ∧ M2 = w0)) av s 0 0 (AA g)) (F0 m 6 ls []) := fun M x u z h H locs hW hS ls hl => ih0 M x u z r M2 h C hr hlk H locs hW hS ls hl
    unfold lp_X11_root_6 at h
    try dsimp only at h
    have hx := C.1
    have hb := C.2.1
    have hts := C.2.2.2.2.1
    refine lv_iload_n hx hb dX11_root_6 rfl (lv_at hl 2 rfl) ?_
    refine lv_if_le (tgt := 44) hx hb dX11_root_7 (by decide) (fun c1001 => ?_) (fun c1001 => ?_)
    · rw [if_pos c1001] at h
      refine lv_iload_n hx hb dX11_root_44 rfl (lv_at hl 1 rfl) ?_
      cases h
      exact rI C hr hlk dX11_root_45 hW hS ⟨rfl, rfl⟩
    · rw [if_neg c1001] at h
      refine lv_iload_n hx hb dX11_root_10 rfl (lv_at hl 1 rfl) ?_
      refine lv_iload_n hx hb dX11_root_11 rfl (lv_at hl 2 rfl) ?_
      refine lv_iadd hx hb dX11_root_12 ?_
      refine lv_i2l hx hb dX11_root_13 rfl ?_
      refine lv_lstore (lv' := [(4, .long (Int32.toInt64 ((u) + (z)))), (0, .long (x)), (2, .int (u)), (3, .int (z))]) hx hb dX11_root_14 hl (by decide) rfl (fun ls hl => ?_)
      refine lv_lload hx hb dX11_root_16 (lv_at hl 0 rfl) ?_
      refine lv_lload hx hb dX11_root_18 (lv_at hl 0 rfl) ?_
      refine lv_lmul hx hb dX11_root_20 ?_
      refine lv_lload hx hb dX11_root_21 (lv_at hl 0 rfl) ?_
      refine lv_lmul hx hb dX11_root_23 ?_
      refine lv_lload_n hx hb dX11_root_24 rfl (lv_at hl 1 rfl) ?_
      refine W.lcmp hx hb dX11_root_25 ?_
      refine lv_if_gt (tgt := 35) hx hb dX11_root_26 (by decide) (fun c1002 => ?_) (fun c1002 => ?_)
      · rw [if_pos c1002] at h
        refine lv_iload_n hx hb dX11_root_35 rfl (lv_at hl 2 rfl) ?_
        refine lv_istore_n (lv' := [(2, .int (u)), (4, .long (Int32.toInt64 ((u) + (z)))), (0, .long (x)), (3, .int (z))]) hx hb dX11_root_36 rfl hl (by decide) rfl (fun ls hl => ?_)
        refine lv_iload_n hx hb dX11_root_37 rfl (lv_at hl 3 rfl) ?_
        refine lv_iconst (v := 2) hx hb dX11_root_38 (by decide) ?_
        refine lv_idiv hx hb dX11_root_39 (by decide) ?_
        refine lv_istore_n (lv' := [(3, .int ((z) / (2))), (2, .int (u)), (4, .long (Int32.toInt64 ((u) + (z)))), (0, .long (x))]) hx hb dX11_root_40 rfl hl (by decide) rfl (fun ls hl => ?_)
        refine lv_goto (tgt := 6) hx hb dX11_root_41 (by decide) ?_
        exact ih M x u ((z) / (2)) h _ _ hW hS ls (lv_sub hl [3, 1, 0] rfl)
      · rw [if_neg c1002] at h
        refine lv_iload_n hx hb dX11_root_29 rfl (lv_at hl 2 rfl) ?_
        refine lv_iload_n hx hb dX11_root_30 rfl (lv_at hl 3 rfl) ?_
        refine lv_iadd hx hb dX11_root_31 ?_
        refine lv_goto (tgt := 36) hx hb dX11_root_32 (by decide) ?_
        refine lv_istore_n (lv' := [(2, .int ((u) + (z))), (4, .long (Int32.toInt64 ((u) + (z)))), (0, .long (x)), (3, .int (z))]) hx hb dX11_root_36 rfl hl (by decide) rfl (fun ls hl => ?_)
        refine lv_iload_n hx hb dX11_root_37 rfl (lv_at hl 3 rfl) ?_
        refine lv_iconst (v := 2) hx hb dX11_root_38 (by decide) ?_
        refine lv_idiv hx hb dX11_root_39 (by decide) ?_
        refine lv_istore_n (lv' := [(3, .int ((z) / (2))), (2, .int ((u) + (z))), (4, .long (Int32.toInt64 ((u) + (z)))), (0, .long (x))]) hx hb dX11_root_40 rfl hl (by decide) rfl (fun ls hl => ?_)
        refine lv_goto (tgt := 6) hx hb dX11_root_41 (by decide) ?_
        exact ih M x ((u) + (z)) ((z) / (2)) h _ _ hW hS ls (lv_sub hl [3, 1, 0] rfl)
set_option maxHeartbeats 4000000 in
set_option maxRecDepth 100000 in
theorem c_X11_root (l : Launch) (g : GD) (M : MM) (x : Int64) (r : Int32) (M2 : MM) (h : f_X11_root M x = some (r, M2)) : Met l yX11_root (wm yX11_root cX11_root 6 (some .int)) (RM 0 0) (va_Pc [.long (x)] (WDp g M)) (QQ g (fun v w0 => v = .int r ∧ M2 = w0)) 0 0 (AA g) := by
  refine mkM (by decide +kernel) (Nat.le_of_ble_eq_true rfl) ?_
  intro p e s m below meth c C hr hlk hW hS ls hl
  have hl : lv_has ls 6 [(0, .long (x))] := hl
  have hx := C.1
  have hb := C.2.1
  have hts := C.2.2.2.2.1
  unfold f_X11_root at h
  refine lv_iconst (v := 0) hx hb dX11_root_0 (by decide) ?_
  refine lv_istore_n (lv' := [(2, .int (0)), (0, .long (x))]) hx hb dX11_root_1 rfl hl (by decide) rfl (fun ls hl => ?_)
  refine lv_sipush (v := 2048) hx hb dX11_root_2 (by decide) ?_
  refine lv_istore_n (lv' := [(3, .int (2048)), (2, .int (0)), (0, .long (x))]) hx hb dX11_root_5 rfl hl (by decide) rfl (fun ls hl => ?_)
  exact t_X11_root_6 l g    FU M x 0 2048 _ _ h C hr hlk _ _ hW hS ls (lv_sub hl [2, 1, 0] rfl)
def f_X11_factor (M : MM) (x : Int32) : Option (Int32 × MM) := (if (x : Int32) = 0 then some (900, M) else (if (x : Int32) = (1 : Int32) then some (1200, M) else (if (x : Int32) = (2 : Int32) then some (1500, M) else some (1100, M))))
set_option maxHeartbeats 4000000 in
set_option maxRecDepth 100000 in
theorem c_X11_factor (l : Launch) (g : GD) (M : MM) (x : Int32) (r : Int32) (M2 : MM) (h : f_X11_factor M x = some (r, M2)) : Met l yX11_factor (wm yX11_factor cX11_factor 1 (some .int)) (RM 0 0) (va_Pc [.int (x)] (WDp g M)) (QQ g (fun v w0 => v = .int r ∧ M2 = w0)) 0 0 (AA g) := by
  refine mkM (by decide +kernel) (Nat.le_of_ble_eq_true rfl) ?_
  intro p e s m below meth c C hr hlk hW hS ls hl
  have hl : lv_has ls 1 [(0, .int (x))] := hl
  have hx := C.1
  have hb := C.2.1
  have hts := C.2.2.2.2.1
  unfold f_X11_factor at h
  refine lv_iload_n hx hb dX11_factor_0 rfl (lv_at hl 0 rfl) ?_
  refine lv_if_ne (tgt := 10) hx hb dX11_factor_1 (by decide) (fun c1 => ?_) (fun c1 => ?_)
  · rw [if_neg c1] at h
    refine lv_iload_n hx hb dX11_factor_10 rfl (lv_at hl 0 rfl) ?_
    refine lv_iconst (v := 1) hx hb dX11_factor_11 (by decide) ?_
    refine lv_icmp_ne (tgt := 21) hx hb dX11_factor_12 (by decide) (fun c2 => ?_) (fun c2 => ?_)
    · rw [if_neg c2] at h
      refine lv_iload_n hx hb dX11_factor_21 rfl (lv_at hl 0 rfl) ?_
      refine lv_iconst (v := 2) hx hb dX11_factor_22 (by decide) ?_
      refine lv_icmp_ne (tgt := 32) hx hb dX11_factor_23 (by decide) (fun c3 => ?_) (fun c3 => ?_)
      · rw [if_neg c3] at h
        refine lv_sipush (v := 1100) hx hb dX11_factor_32 (by decide) ?_
        cases h
        exact rI C hr hlk dX11_factor_35 hW hS ⟨rfl, rfl⟩
      · rw [if_pos c3] at h
        refine lv_sipush (v := 1500) hx hb dX11_factor_26 (by decide) ?_
        refine lv_goto (tgt := 35) hx hb dX11_factor_29 (by decide) ?_
        cases h
        exact rI C hr hlk dX11_factor_35 hW hS ⟨rfl, rfl⟩
    · rw [if_pos c2] at h
      refine lv_sipush (v := 1200) hx hb dX11_factor_15 (by decide) ?_
      refine lv_goto (tgt := 35) hx hb dX11_factor_18 (by decide) ?_
      cases h
      exact rI C hr hlk dX11_factor_35 hW hS ⟨rfl, rfl⟩
  · rw [if_pos c1] at h
    refine lv_sipush (v := 900) hx hb dX11_factor_4 (by decide) ?_
    refine lv_goto (tgt := 35) hx hb dX11_factor_7 (by decide) ?_
    cases h
    exact rI C hr hlk dX11_factor_35 hW hS ⟨rfl, rfl⟩
def f_X11_pitchOf (M : MM) (x : Int32) (y : Int32) (u : Int32) : Option (Int32 × MM) := (bnd2 (f_X11_factor M x) fun r1 M2 => (bnd2 (f_X11_root M2 ((1000000) * (Int32.toInt64 (y)))) fun r4 M5 => (if (r4 : Int32) = 0 then none else some ((((r1) * (1000)) / (r4)) + ((u) / (4)), M5))))
set_option maxHeartbeats 4000000 in
set_option maxRecDepth 100000 in
theorem c_X11_pitchOf (l : Launch) (g : GD) (M : MM) (x : Int32) (y : Int32) (u : Int32) (r : Int32) (M2 : MM) (h : f_X11_pitchOf M x y u = some (r, M2)) : Met l yX11_pitchOf (wm yX11_pitchOf cX11_pitchOf 3 (some .int)) (RM 1 25) (va_Pc [.int (x), .int (y), .int (u)] (WDp g M)) (QQ g (fun v w0 => v = .int r ∧ M2 = w0)) 0 0 (AA g) := by
  refine mkM (by decide +kernel) (Nat.le_of_ble_eq_true rfl) ?_
  intro p e s m below meth c C hr hlk hW hS ls hl
  have hl : lv_has ls 3 [(0, .int (x)), (1, .int (y)), (2, .int (u))] := hl
  have hx := C.1
  have hb := C.2.1
  have hts := C.2.2.2.2.1
  unfold f_X11_pitchOf at h
  refine lv_iload_n hx hb dX11_pitchOf_0 rfl (lv_at hl 0 rfl) ?_
  obtain ⟨r1, M2, h3, h⟩ := bind2 h
  refine cBack C.2.2.2.2.2.2.2.2 (runS (As := [.int (x)]) (rest := []) C hW hS (c_X11_factor l g M x _ _ h3) kS_X11_factor ml_X11_110 rfl hl.1 rfl (Nat.le_of_ble_eq_true rfl) ⟨Nat.le_of_ble_eq_true rfl, Nat.le_of_ble_eq_true rfl⟩ ⟨Nat.zero_le _, Nat.zero_le _⟩ dX11_pitchOf_1) hS (fun v0 w0 H locs hp hW hS => ?_)
  obtain ⟨rfl, rfl⟩ := hp
  refine lv_sipush (v := 1000) hx hb dX11_pitchOf_4 (by decide) ?_
  refine lv_imul hx hb dX11_pitchOf_7 ?_
  refine lv_ldc2 hx hb C.2.2.2.1 (C.2.2.2.2.1 _ kc_X11_113) dX11_pitchOf_8 ?_
  refine lv_iload_n hx hb dX11_pitchOf_11 rfl (lv_at hl 1 rfl) ?_
  refine lv_i2l hx hb dX11_pitchOf_12 rfl ?_
  refine lv_lmul hx hb dX11_pitchOf_13 ?_
  obtain ⟨r4, M5, h6, h⟩ := bind2 h
  refine cBack C.2.2.2.2.2.2.2.2 (runS (As := [.long ((1000000) * (Int32.toInt64 (y)))]) (rest := [.int ((r1) * (1000))]) C hW hS (c_X11_root l g M2 ((1000000) * (Int32.toInt64 (y))) _ _ h6) kS_X11_root ml_X11_115 rfl hl.1 rfl (Nat.le_of_ble_eq_true rfl) ⟨Nat.le_of_ble_eq_true rfl, Nat.le_of_ble_eq_true rfl⟩ ⟨Nat.zero_le _, Nat.zero_le _⟩ dX11_pitchOf_14) hS (fun v0 w0 H locs hp hW hS => ?_)
  obtain ⟨rfl, rfl⟩ := hp
  have s7 : ¬ ((r4 : Int32) = 0) := fun q9 => by rw [if_pos q9] at h; cases h
  rw [if_neg s7] at h
  refine lv_idiv hx hb dX11_pitchOf_17 s7 ?_
  refine lv_iload_n hx hb dX11_pitchOf_18 rfl (lv_at hl 2 rfl) ?_
  refine lv_iconst (v := 4) hx hb dX11_pitchOf_19 (by decide) ?_
  refine lv_idiv hx hb dX11_pitchOf_20 (by decide) ?_
  refine lv_iadd hx hb dX11_pitchOf_21 ?_
  cases h
  exact rI C hr hlk dX11_pitchOf_22 hW hS ⟨rfl, rfl⟩
def f_X11_sprueOf (M : MM) (x : Int32) : Option (Int32 × MM) := (bnd2 (f_X11_setting M 4) fun r1 M2 => some ((((x) * (r1)) + (999)) / (1000), M2))
set_option maxHeartbeats 4000000 in
set_option maxRecDepth 100000 in
theorem c_X11_sprueOf (l : Launch) (g : GD) (M : MM) (x : Int32) (r : Int32) (M2 : MM) (h : f_X11_sprueOf M x = some (r, M2)) : Met l yX11_sprueOf (wm yX11_sprueOf cX11_sprueOf 2 (some .int)) (RM 1 21) (va_Pc [rf g (1697), .int (x)] (WDp g M)) (QQ g (fun v w0 => v = .int r ∧ M2 = w0)) 0 0 (AA g) := by
  refine mkM (by decide +kernel) (Nat.le_of_ble_eq_true rfl) ?_
  intro p e s m below meth c C hr hlk hW hS ls hl
  have hl : lv_has ls 2 [(0, rf g (1697)), (1, .int (x))] := hl
  have hx := C.1
  have hb := C.2.1
  have hts := C.2.2.2.2.1
  unfold f_X11_sprueOf at h
  refine lv_iload_n hx hb dX11_sprueOf_0 rfl (lv_at hl 1 rfl) ?_
  refine lv_aload_n hx hb dX11_sprueOf_1 rfl (lv_at hl 0 rfl) ?_
  refine lv_iconst (v := 4) hx hb dX11_sprueOf_2 (by decide) ?_
  obtain ⟨r1, M2, h3, h⟩ := bind2 h
  refine cBack C.2.2.2.2.2.2.2.2 (runV (As := [.int (4)]) (rest := [.int (x)]) C hW hS (c_X11_setting l g M 4 _ _ h3) kV_X11_setting ml_X11_61 (by decide) tm_Model rfl rfl rfl hl.1 rfl (Nat.le_of_ble_eq_true rfl) ⟨Nat.le_of_ble_eq_true rfl, Nat.le_of_ble_eq_true rfl⟩ ⟨Nat.zero_le _, Nat.zero_le _⟩ dX11_sprueOf_3) hS (fun v0 w0 H locs hp hW hS => ?_)
  obtain ⟨rfl, rfl⟩ := hp
  refine lv_imul hx hb dX11_sprueOf_6 ?_
  refine lv_sipush (v := 999) hx hb dX11_sprueOf_7 (by decide) ?_
  refine lv_iadd hx hb dX11_sprueOf_10 ?_
  refine lv_sipush (v := 1000) hx hb dX11_sprueOf_11 (by decide) ?_
  refine lv_idiv hx hb dX11_sprueOf_14 (by decide) ?_
  cases h
  exact rI C hr hlk dX11_sprueOf_15 hW hS ⟨rfl, rfl⟩
def f_X11_pour (M : MM) (x : Int32) (y : Int32) : Option (Int32 × MM) := (bnd2 (f_X11_in M x 0 3) fun r1 M2 => (if (r1 : Int32) = 0 then some (-1, M2) else (bnd2 (f_X11_in M2 y 1 10000) fun r5 M6 => (if (r5 : Int32) = 0 then some (-1, M6) else (bnd2 (f_X11_melt M6 4) fun r9 M10 => (bnd2 (f_X11_sprueOf M10 y) fun r12 M13 => (if ((y) + (r12) : Int32) ≤ (r9 : Int32) then (bnd2 (f_X11_here M13 ) fun r16 M17 => (if (r16 : Int32) = (12 : Int32) then some (-3, M17) else (if vin (52) 1254 then (if (M17 21 (52 : Int32).toNatClampNeg : Int32) = (100 : Int32) then some (-3, M17) else (bnd2 (f_X11_keeps M17 ) fun r22 M23 => (bnd2 (f_X11_burns M23 6) fun r25 M26 => (if vin (52) 1254 then (bnd2 (f_X11_atBell M26 (M26 21 (52 : Int32).toNatClampNeg)) fun r29 M30 => (if vin (52) 1254 then (if vin (52) 1254 then (letB (up2 M30 21 (52 : Int32).toNatClampNeg ((M30 21 (52 : Int32).toNatClampNeg) + (1))) fun M34 => (if vin (r29) 1254 then (letB (up2 M34 21 (r29 : Int32).toNatClampNeg (0)) fun M36 => (if vin ((r29) + (1)) 1254 then (letB (up2 M36 21 ((r29) + (1) : Int32).toNatClampNeg (0)) fun M38 => (bnd2 (f_X11_draws M38 6 r29 y) fun r39 M40 => (bnd2 (f_X11_sprueOf M40 y) fun r42 M43 => (bnd2 (f_X11_scraps M43 6 r42 0) fun r45 M46 => (if vin ((r29) + (2)) 1254 then (letB (up2 M46 21 ((r29) + (2) : Int32).toNatClampNeg (x)) fun M49 => (bnd2 (f_X11_alloy M49 r29) fun r50 M51 => (bnd2 (f_X11_pitchOf M51 x y r50) fun r53 M54 => (if vin ((r29) + (3)) 1254 then (letB (up2 M54 21 ((r29) + (3) : Int32).toNatClampNeg (r53)) fun M57 => (if vin ((r29) + (4)) 1254 then (letB (up2 M57 21 ((r29) + (4) : Int32).toNatClampNeg (y)) fun M59 => (if vin ((r29) + (5)) 1254 then (letB (up2 M59 21 ((r29) + (5) : Int32).toNatClampNeg (0)) fun M61 => (bnd2 (f_X11_alloy M61 r29) fun r62 M63 => (bnd2 (f_X11_setting M63 2) fun r65 M66 => (bnd2 (f_X11_setting M66 3) fun r68 M69 => (bnd2 (f_X11_in M69 r62 r65 r68) fun r71 M72 => (if (r71 : Int32) = 0 then (if vin ((r29) + (6)) 1254 then (letB (up2 M72 21 ((r29) + (6) : Int32).toNatClampNeg (1)) fun M76 => (if vin ((r29) + (7)) 1254 then (letB (up2 M76 21 ((r29) + (7) : Int32).toNatClampNeg (-4)) fun M78 => some (M26 21 (52 : Int32).toNatClampNeg, M78)) else none)) else none) else (if vin ((r29) + (6)) 1254 then (letB (up2 M72 21 ((r29) + (6) : Int32).toNatClampNeg (0)) fun M80 => (if vin ((r29) + (7)) 1254 then (letB (up2 M80 21 ((r29) + (7) : Int32).toNatClampNeg (-4)) fun M82 => some (M26 21 (52 : Int32).toNatClampNeg, M82)) else none)) else none))))))) else none)) else none)) else none)))) else none))))) else none)) else none)) else none) else none)) else none)))) else none))) else some (-2, M13))))))))
set_option maxHeartbeats 4000000 in
set_option maxRecDepth 100000 in
theorem c_X11_pour (l : Launch) (g : GD) (M : MM) (x : Int32) (y : Int32) (r : Int32) (M2 : MM) (h : f_X11_pour M x y = some (r, M2)) : Met l yX11_pour (wm yX11_pour cX11_pour 5 (some .int)) (RM 3 71) (va_Pc [rf g (1697), .int (x), .int (y)] (WDp g M)) (QQ g (fun v w0 => v = .int r ∧ M2 = w0)) 0 0 (AA g) := by
  refine mkM (by decide +kernel) (Nat.le_of_ble_eq_true rfl) ?_
  intro p e s m below meth c C hr hlk hW hS ls hl
  have hl : lv_has ls 5 [(0, rf g (1697)), (1, .int (x)), (2, .int (y))] := hl
  have hx := C.1
  have hb := C.2.1
  have hts := C.2.2.2.2.1
  unfold f_X11_pour at h
  refine lv_iload_n hx hb dX11_pour_0 rfl (lv_at hl 1 rfl) ?_
  refine lv_iconst (v := 0) hx hb dX11_pour_1 (by decide) ?_
  refine lv_iconst (v := 3) hx hb dX11_pour_2 (by decide) ?_
  obtain ⟨r1, M2, h3, h⟩ := bind2 h
  refine cBack C.2.2.2.2.2.2.2.2 (runS (As := [.int (x), .int (0), .int (3)]) (rest := []) C hW hS (c_X11_in l g M x 0 3 _ _ h3) kS_X11_in ml_X11_68 rfl hl.1 rfl (Nat.le_of_ble_eq_true rfl) ⟨Nat.le_of_ble_eq_true rfl, Nat.le_of_ble_eq_true rfl⟩ ⟨Nat.zero_le _, Nat.zero_le _⟩ dX11_pour_3) hS (fun v0 w0 H locs hp hW hS => ?_)
  obtain ⟨rfl, rfl, zr1⟩ := hp
  refine lv_if_eq (tgt := 20) hx hb dX11_pour_6 (by decide) (fun c4 => ?_) (fun c4 => ?_)
  · rw [if_pos c4] at h
    refine lv_iconst (v := -1) hx hb dX11_pour_20 (by decide) ?_
    cases h
    exact rI C hr hlk dX11_pour_21 hW hS ⟨rfl, rfl⟩
  · rw [if_neg c4] at h
    refine lv_iload_n hx hb dX11_pour_9 rfl (lv_at hl 2 rfl) ?_
    refine lv_iconst (v := 1) hx hb dX11_pour_10 (by decide) ?_
    refine lv_sipush (v := 10000) hx hb dX11_pour_11 (by decide) ?_
    obtain ⟨r5, M6, h7, h⟩ := bind2 h
    refine cBack C.2.2.2.2.2.2.2.2 (runS (As := [.int (y), .int (1), .int (10000)]) (rest := []) C hW hS (c_X11_in l g M2 y 1 10000 _ _ h7) kS_X11_in ml_X11_68 rfl hl.1 rfl (Nat.le_of_ble_eq_true rfl) ⟨Nat.le_of_ble_eq_true rfl, Nat.le_of_ble_eq_true rfl⟩ ⟨Nat.zero_le _, Nat.zero_le _⟩ dX11_pour_14) hS (fun v0 w0 H locs hp hW hS => ?_)
    obtain ⟨rfl, rfl, zr5⟩ := hp
    refine lv_if_ne (tgt := 22) hx hb dX11_pour_17 (by decide) (fun c8 => ?_) (fun c8 => ?_)
    · rw [if_neg c8] at h
      refine lv_aload_n hx hb dX11_pour_22 rfl (lv_at hl 0 rfl) ?_
      refine lv_iconst (v := 4) hx hb dX11_pour_23 (by decide) ?_
      obtain ⟨r9, M10, h11, h⟩ := bind2 h
      refine cBack C.2.2.2.2.2.2.2.2 (runV (As := [.int (4)]) (rest := []) C hW hS (c_X11_melt l g M6 4 _ _ h11) kV_X11_melt ml_X11_119 (by decide) tm_Model rfl rfl rfl hl.1 rfl (Nat.le_of_ble_eq_true rfl) ⟨Nat.le_of_ble_eq_true rfl, Nat.le_of_ble_eq_true rfl⟩ ⟨Nat.zero_le _, Nat.zero_le _⟩ dX11_pour_24) hS (fun v0 w0 H locs hp hW hS => ?_)
      obtain ⟨rfl, rfl⟩ := hp
      refine lv_iload_n hx hb dX11_pour_27 rfl (lv_at hl 2 rfl) ?_
      refine lv_aload_n hx hb dX11_pour_28 rfl (lv_at hl 0 rfl) ?_
      refine lv_iload_n hx hb dX11_pour_29 rfl (lv_at hl 2 rfl) ?_
      obtain ⟨r12, M13, h14, h⟩ := bind2 h
      refine cBack C.2.2.2.2.2.2.2.2 (runV (As := [.int (y)]) (rest := [.int (y), .int (r9)]) C hW hS (c_X11_sprueOf l g M10 y _ _ h14) kV_X11_sprueOf ml_X11_122 (by decide) tm_Model rfl rfl rfl hl.1 rfl (Nat.le_of_ble_eq_true rfl) ⟨Nat.le_of_ble_eq_true rfl, Nat.le_of_ble_eq_true rfl⟩ ⟨Nat.zero_le _, Nat.zero_le _⟩ dX11_pour_30) hS (fun v0 w0 H locs hp hW hS => ?_)
      obtain ⟨rfl, rfl⟩ := hp
      refine lv_iadd hx hb dX11_pour_33 ?_
      refine lv_icmp_ge (tgt := 40) hx hb dX11_pour_34 (by decide) (fun c15 => ?_) (fun c15 => ?_)
      · rw [if_pos c15] at h
        refine lv_aload_n hx hb dX11_pour_40 rfl (lv_at hl 0 rfl) ?_
        obtain ⟨r16, M17, h18, h⟩ := bind2 h
        refine cBack C.2.2.2.2.2.2.2.2 (runV (As := []) (rest := []) C hW hS (c_X11_here l g M13  _ _ h18) kV_X11_here ml_X11_125 (by decide) tm_Model rfl rfl rfl hl.1 rfl (Nat.le_of_ble_eq_true rfl) ⟨Nat.le_of_ble_eq_true rfl, Nat.le_of_ble_eq_true rfl⟩ ⟨Nat.zero_le _, Nat.zero_le _⟩ dX11_pour_41) hS (fun v0 w0 H locs hp hW hS => ?_)
        obtain ⟨rfl, rfl⟩ := hp
        refine lv_bipush (v := 12) hx hb dX11_pour_44 (by decide) ?_
        refine lv_icmp_eq (tgt := 61) hx hb dX11_pour_46 (by decide) (fun c19 => ?_) (fun c19 => ?_)
        · rw [if_pos c19] at h
          refine lv_bipush (v := -3) hx hb dX11_pour_61 (by decide) ?_
          cases h
          exact rI C hr hlk dX11_pour_63 hW hS ⟨rfl, rfl⟩
        · rw [if_neg c19] at h
          refine lv_aload_n hx hb dX11_pour_49 rfl (lv_at hl 0 rfl) ?_
          refine rGet (k := 0) C hW (by decide) tm_Model rfl inX11 (by decide) fl_X11_7 rfl dX11_pour_50 ?_
          refine lv_bipush (v := 52) hx hb dX11_pour_53 (by decide) ?_
          have s20 : vin (52) 1254 := Classical.byContradiction fun q9 => by rw [if_neg q9] at h; cases h
          rw [if_pos s20] at h
          refine rIld C hW (by decide) tm_s s20 dX11_pour_55 ?_
          refine lv_bipush (v := 100) hx hb dX11_pour_56 (by decide) ?_
          refine lv_icmp_ne (tgt := 64) hx hb dX11_pour_58 (by decide) (fun c21 => ?_) (fun c21 => ?_)
          · rw [if_neg c21] at h
            refine lv_aload_n hx hb dX11_pour_64 rfl (lv_at hl 0 rfl) ?_
            obtain ⟨r22, M23, h24, h⟩ := bind2 h
            refine cBackV C.2.2.2.2.2.2.2.2 (runV (As := []) (rest := []) C hW hS (c_X11_keeps l g M17  _ _ h24) kV_X11_keeps ml_X11_85 (by decide) tm_Model rfl rfl rfl hl.1 rfl (Nat.le_of_ble_eq_true rfl) ⟨Nat.le_of_ble_eq_true rfl, Nat.le_of_ble_eq_true rfl⟩ ⟨Nat.zero_le _, Nat.zero_le _⟩ dX11_pour_65) hS (fun v0 H locs hp hW hS => ?_)
            subst hp
            refine lv_aload_n hx hb dX11_pour_68 rfl (lv_at hl 0 rfl) ?_
            refine lv_bipush (v := 6) hx hb dX11_pour_69 (by decide) ?_
            obtain ⟨r25, M26, h27, h⟩ := bind2 h
            refine cBackV C.2.2.2.2.2.2.2.2 (runV (As := [.int (6)]) (rest := []) C hW hS (c_X11_burns l g M23 6 _ _ h27) kV_X11_burns ml_X11_94 (by decide) tm_Model rfl rfl rfl hl.1 rfl (Nat.le_of_ble_eq_true rfl) ⟨Nat.le_of_ble_eq_true rfl, Nat.le_of_ble_eq_true rfl⟩ ⟨Nat.zero_le _, Nat.zero_le _⟩ dX11_pour_71) hS (fun v0 H locs hp hW hS => ?_)
            subst hp
            refine lv_aload_n hx hb dX11_pour_74 rfl (lv_at hl 0 rfl) ?_
            refine rGet (k := 0) C hW (by decide) tm_Model rfl inX11 (by decide) fl_X11_7 rfl dX11_pour_75 ?_
            refine lv_bipush (v := 52) hx hb dX11_pour_78 (by decide) ?_
            have s28 : vin (52) 1254 := Classical.byContradiction fun q9 => by rw [if_neg q9] at h; cases h
            rw [if_pos s28] at h
            refine rIld C hW (by decide) tm_s s28 dX11_pour_80 ?_
            refine lv_istore_n (lv' := [(3, .int (M26 21 (52 : Int32).toNatClampNeg)), (0, rf g (1697)), (1, .int (x)), (2, .int (y))]) hx hb dX11_pour_81 rfl hl (by decide) rfl (fun ls hl => ?_)
            refine lv_iload_n hx hb dX11_pour_82 rfl (lv_at hl 0 rfl) ?_
            obtain ⟨r29, M30, h31, h⟩ := bind2 h
            refine cBack C.2.2.2.2.2.2.2.2 (runS (As := [.int (M26 21 (52 : Int32).toNatClampNeg)]) (rest := []) C hW hS (c_X11_atBell l g M26 (M26 21 (52 : Int32).toNatClampNeg) _ _ h31) kS_X11_atBell ml_X11_129 rfl hl.1 rfl (Nat.le_of_ble_eq_true rfl) ⟨Nat.le_of_ble_eq_true rfl, Nat.le_of_ble_eq_true rfl⟩ ⟨Nat.zero_le _, Nat.zero_le _⟩ dX11_pour_83) hS (fun v0 w0 H locs hp hW hS => ?_)
            obtain ⟨rfl, rfl⟩ := hp
            refine lv_istore (lv' := [(4, .int (r29)), (3, .int (M26 21 (52 : Int32).toNatClampNeg)), (0, rf g (1697)), (1, .int (x)), (2, .int (y))]) hx hb dX11_pour_86 hl (by decide) rfl (fun ls hl => ?_)
            refine lv_aload_n hx hb dX11_pour_88 rfl (lv_at hl 2 rfl) ?_
            refine rGet (k := 0) C hW (by decide) tm_Model rfl inX11 (by decide) fl_X11_7 rfl dX11_pour_89 ?_
            refine lv_bipush (v := 52) hx hb dX11_pour_92 (by decide) ?_
            refine lv_dup2_11 hx hb dX11_pour_94 rfl rfl ?_
            have s32 : vin (52) 1254 := Classical.byContradiction fun q9 => by rw [if_neg q9] at h; cases h
            rw [if_pos s32] at h
            refine rIld C hW (by decide) tm_s s32 dX11_pour_95 ?_
            refine lv_iconst (v := 1) hx hb dX11_pour_96 (by decide) ?_
            refine lv_iadd hx hb dX11_pour_97 ?_
            have s33 : vin (52) 1254 := Classical.byContradiction fun q9 => by rw [if_neg q9] at h; cases h
            rw [if_pos s33] at h
            refine rIst (M' := up2 M30 21 (52 : Int32).toNatClampNeg ((M30 21 (52 : Int32).toNatClampNeg) + (1))) C hW hS (by decide) tm_s s33 (UPD_G (by decide) rfl (by rw [tm_s, up2_gr])) dX11_pour_98 (fun H locs hW hS => ?_)
            have hW : Wd g (up2 M30 21 (52 : Int32).toNatClampNeg ((M30 21 (52 : Int32).toNatClampNeg) + (1))) H := hW
            have h := letE h
            generalize up2 M30 21 (52 : Int32).toNatClampNeg ((M30 21 (52 : Int32).toNatClampNeg) + (1)) = M34 at hW h
            refine lv_aload_n hx hb dX11_pour_99 rfl (lv_at hl 2 rfl) ?_
            refine rGet (k := 0) C hW (by decide) tm_Model rfl inX11 (by decide) fl_X11_7 rfl dX11_pour_100 ?_
            refine lv_iload hx hb dX11_pour_103 (lv_at hl 0 rfl) ?_
            refine lv_iconst (v := 0) hx hb dX11_pour_105 (by decide) ?_
            have s35 : vin (r29) 1254 := Classical.byContradiction fun q9 => by rw [if_neg q9] at h; cases h
            rw [if_pos s35] at h
            refine rIst (M' := up2 M34 21 (r29 : Int32).toNatClampNeg (0)) C hW hS (by decide) tm_s s35 (UPD_G (by decide) rfl (by rw [tm_s, up2_gr])) dX11_pour_106 (fun H locs hW hS => ?_)
            have hW : Wd g (up2 M34 21 (r29 : Int32).toNatClampNeg (0)) H := hW
            have h := letE h
            generalize up2 M34 21 (r29 : Int32).toNatClampNeg (0) = M36 at hW h
            refine lv_aload_n hx hb dX11_pour_107 rfl (lv_at hl 2 rfl) ?_
            refine rGet (k := 0) C hW (by decide) tm_Model rfl inX11 (by decide) fl_X11_7 rfl dX11_pour_108 ?_
            refine lv_iload hx hb dX11_pour_111 (lv_at hl 0 rfl) ?_
            refine lv_iconst (v := 1) hx hb dX11_pour_113 (by decide) ?_
            refine lv_iadd hx hb dX11_pour_114 ?_
            refine lv_iconst (v := 0) hx hb dX11_pour_115 (by decide) ?_
            have s37 : vin ((r29) + (1)) 1254 := Classical.byContradiction fun q9 => by rw [if_neg q9] at h; cases h
            rw [if_pos s37] at h
            refine rIst (M' := up2 M36 21 ((r29) + (1) : Int32).toNatClampNeg (0)) C hW hS (by decide) tm_s s37 (UPD_G (by decide) rfl (by rw [tm_s, up2_gr])) dX11_pour_116 (fun H locs hW hS => ?_)
            have hW : Wd g (up2 M36 21 ((r29) + (1) : Int32).toNatClampNeg (0)) H := hW
            have h := letE h
            generalize up2 M36 21 ((r29) + (1) : Int32).toNatClampNeg (0) = M38 at hW h
            refine lv_aload_n hx hb dX11_pour_117 rfl (lv_at hl 2 rfl) ?_
            refine lv_bipush (v := 6) hx hb dX11_pour_118 (by decide) ?_
            refine lv_iload hx hb dX11_pour_120 (lv_at hl 0 rfl) ?_
            refine lv_iload_n hx hb dX11_pour_122 rfl (lv_at hl 4 rfl) ?_
            obtain ⟨r39, M40, h41, h⟩ := bind2 h
            refine cBackV C.2.2.2.2.2.2.2.2 (runV (As := [.int (6), .int (r29), .int (y)]) (rest := []) C hW hS (c_X11_draws l g M38 6 r29 y _ _ h41) kV_X11_draws ml_X11_75 (by decide) tm_Model rfl rfl rfl hl.1 rfl (Nat.le_of_ble_eq_true rfl) ⟨Nat.le_of_ble_eq_true rfl, Nat.le_of_ble_eq_true rfl⟩ ⟨Nat.zero_le _, Nat.zero_le _⟩ dX11_pour_123) hS (fun v0 H locs hp hW hS => ?_)
            subst hp
            refine lv_aload_n hx hb dX11_pour_126 rfl (lv_at hl 2 rfl) ?_
            refine lv_bipush (v := 6) hx hb dX11_pour_127 (by decide) ?_
            refine lv_aload_n hx hb dX11_pour_129 rfl (lv_at hl 2 rfl) ?_
            refine lv_iload_n hx hb dX11_pour_130 rfl (lv_at hl 4 rfl) ?_
            obtain ⟨r42, M43, h44, h⟩ := bind2 h
            refine cBack C.2.2.2.2.2.2.2.2 (runV (As := [.int (y)]) (rest := [.int (6), rf g (1697)]) C hW hS (c_X11_sprueOf l g M40 y _ _ h44) kV_X11_sprueOf ml_X11_122 (by decide) tm_Model rfl rfl rfl hl.1 rfl (Nat.le_of_ble_eq_true rfl) ⟨Nat.le_of_ble_eq_true rfl, Nat.le_of_ble_eq_true rfl⟩ ⟨Nat.zero_le _, Nat.zero_le _⟩ dX11_pour_131) hS (fun v0 w0 H locs hp hW hS => ?_)
            obtain ⟨rfl, rfl⟩ := hp
            refine lv_iconst (v := 0) hx hb dX11_pour_134 (by decide) ?_
            obtain ⟨r45, M46, h47, h⟩ := bind2 h
            refine cBackV C.2.2.2.2.2.2.2.2 (runV (As := [.int (6), .int (r42), .int (0)]) (rest := []) C hW hS (c_X11_scraps l g M43 6 r42 0 _ _ h47) kV_X11_scraps ml_X11_132 (by decide) tm_Model rfl rfl rfl hl.1 rfl (Nat.le_of_ble_eq_true rfl) ⟨Nat.le_of_ble_eq_true rfl, Nat.le_of_ble_eq_true rfl⟩ ⟨Nat.zero_le _, Nat.zero_le _⟩ dX11_pour_135) hS (fun v0 H locs hp hW hS => ?_)
            subst hp
            refine lv_aload_n hx hb dX11_pour_138 rfl (lv_at hl 2 rfl) ?_
            refine rGet (k := 0) C hW (by decide) tm_Model rfl inX11 (by decide) fl_X11_7 rfl dX11_pour_139 ?_
            refine lv_iload hx hb dX11_pour_142 (lv_at hl 0 rfl) ?_
            refine lv_iconst (v := 2) hx hb dX11_pour_144 (by decide) ?_
            refine lv_iadd hx hb dX11_pour_145 ?_
            refine lv_iload_n hx hb dX11_pour_146 rfl (lv_at hl 3 rfl) ?_
            have s48 : vin ((r29) + (2)) 1254 := Classical.byContradiction fun q9 => by rw [if_neg q9] at h; cases h
            rw [if_pos s48] at h
            refine rIst (M' := up2 M46 21 ((r29) + (2) : Int32).toNatClampNeg (x)) C hW hS (by decide) tm_s s48 (UPD_G (by decide) rfl (by rw [tm_s, up2_gr])) dX11_pour_147 (fun H locs hW hS => ?_)
            have hW : Wd g (up2 M46 21 ((r29) + (2) : Int32).toNatClampNeg (x)) H := hW
            have h := letE h
            generalize up2 M46 21 ((r29) + (2) : Int32).toNatClampNeg (x) = M49 at hW h
            refine lv_aload_n hx hb dX11_pour_148 rfl (lv_at hl 2 rfl) ?_
            refine rGet (k := 0) C hW (by decide) tm_Model rfl inX11 (by decide) fl_X11_7 rfl dX11_pour_149 ?_
            refine lv_iload hx hb dX11_pour_152 (lv_at hl 0 rfl) ?_
            refine lv_iconst (v := 3) hx hb dX11_pour_154 (by decide) ?_
            refine lv_iadd hx hb dX11_pour_155 ?_
            refine lv_iload_n hx hb dX11_pour_156 rfl (lv_at hl 3 rfl) ?_
            refine lv_iload_n hx hb dX11_pour_157 rfl (lv_at hl 4 rfl) ?_
            refine lv_aload_n hx hb dX11_pour_158 rfl (lv_at hl 2 rfl) ?_
            refine lv_iload hx hb dX11_pour_159 (lv_at hl 0 rfl) ?_
            obtain ⟨r50, M51, h52, h⟩ := bind2 h
            refine cBack C.2.2.2.2.2.2.2.2 (runV (As := [.int (r29)]) (rest := [.int (y), .int (x), .int ((r29) + (3)), rf g (1698)]) C hW hS (c_X11_alloy l g M49 r29 _ _ h52) kV_X11_alloy ml_X11_98 (by decide) tm_Model rfl rfl rfl hl.1 rfl (Nat.le_of_ble_eq_true rfl) ⟨Nat.le_of_ble_eq_true rfl, Nat.le_of_ble_eq_true rfl⟩ ⟨Nat.zero_le _, Nat.zero_le _⟩ dX11_pour_161) hS (fun v0 w0 H locs hp hW hS => ?_)
            obtain ⟨rfl, rfl⟩ := hp
            obtain ⟨r53, M54, h55, h⟩ := bind2 h
            refine cBack C.2.2.2.2.2.2.2.2 (runS (As := [.int (x), .int (y), .int (r50)]) (rest := [.int ((r29) + (3)), rf g (1698)]) C hW hS (c_X11_pitchOf l g M51 x y r50 _ _ h55) kS_X11_pitchOf ml_X11_135 rfl hl.1 rfl (Nat.le_of_ble_eq_true rfl) ⟨Nat.le_of_ble_eq_true rfl, Nat.le_of_ble_eq_true rfl⟩ ⟨Nat.zero_le _, Nat.zero_le _⟩ dX11_pour_164) hS (fun v0 w0 H locs hp hW hS => ?_)
            obtain ⟨rfl, rfl⟩ := hp
            have s56 : vin ((r29) + (3)) 1254 := Classical.byContradiction fun q9 => by rw [if_neg q9] at h; cases h
            rw [if_pos s56] at h
            refine rIst (M' := up2 M54 21 ((r29) + (3) : Int32).toNatClampNeg (r53)) C hW hS (by decide) tm_s s56 (UPD_G (by decide) rfl (by rw [tm_s, up2_gr])) dX11_pour_167 (fun H locs hW hS => ?_)
            have hW : Wd g (up2 M54 21 ((r29) + (3) : Int32).toNatClampNeg (r53)) H := hW
            have h := letE h
            generalize up2 M54 21 ((r29) + (3) : Int32).toNatClampNeg (r53) = M57 at hW h
            refine lv_aload_n hx hb dX11_pour_168 rfl (lv_at hl 2 rfl) ?_
            refine rGet (k := 0) C hW (by decide) tm_Model rfl inX11 (by decide) fl_X11_7 rfl dX11_pour_169 ?_
            refine lv_iload hx hb dX11_pour_172 (lv_at hl 0 rfl) ?_
            refine lv_iconst (v := 4) hx hb dX11_pour_174 (by decide) ?_
            refine lv_iadd hx hb dX11_pour_175 ?_
            refine lv_iload_n hx hb dX11_pour_176 rfl (lv_at hl 4 rfl) ?_
            have s58 : vin ((r29) + (4)) 1254 := Classical.byContradiction fun q9 => by rw [if_neg q9] at h; cases h
            rw [if_pos s58] at h
            refine rIst (M' := up2 M57 21 ((r29) + (4) : Int32).toNatClampNeg (y)) C hW hS (by decide) tm_s s58 (UPD_G (by decide) rfl (by rw [tm_s, up2_gr])) dX11_pour_177 (fun H locs hW hS => ?_)
            have hW : Wd g (up2 M57 21 ((r29) + (4) : Int32).toNatClampNeg (y)) H := hW
            have h := letE h
            generalize up2 M57 21 ((r29) + (4) : Int32).toNatClampNeg (y) = M59 at hW h
            refine lv_aload_n hx hb dX11_pour_178 rfl (lv_at hl 2 rfl) ?_
            refine rGet (k := 0) C hW (by decide) tm_Model rfl inX11 (by decide) fl_X11_7 rfl dX11_pour_179 ?_
            refine lv_iload hx hb dX11_pour_182 (lv_at hl 0 rfl) ?_
            refine lv_iconst (v := 5) hx hb dX11_pour_184 (by decide) ?_
            refine lv_iadd hx hb dX11_pour_185 ?_
            refine lv_iconst (v := 0) hx hb dX11_pour_186 (by decide) ?_
            have s60 : vin ((r29) + (5)) 1254 := Classical.byContradiction fun q9 => by rw [if_neg q9] at h; cases h
            rw [if_pos s60] at h
            refine rIst (M' := up2 M59 21 ((r29) + (5) : Int32).toNatClampNeg (0)) C hW hS (by decide) tm_s s60 (UPD_G (by decide) rfl (by rw [tm_s, up2_gr])) dX11_pour_187 (fun H locs hW hS => ?_)
            have hW : Wd g (up2 M59 21 ((r29) + (5) : Int32).toNatClampNeg (0)) H := hW
            have h := letE h
            generalize up2 M59 21 ((r29) + (5) : Int32).toNatClampNeg (0) = M61 at hW h
            refine lv_aload_n hx hb dX11_pour_188 rfl (lv_at hl 2 rfl) ?_
            refine rGet (k := 0) C hW (by decide) tm_Model rfl inX11 (by decide) fl_X11_7 rfl dX11_pour_189 ?_
            refine lv_iload hx hb dX11_pour_192 (lv_at hl 0 rfl) ?_
            refine lv_bipush (v := 6) hx hb dX11_pour_194 (by decide) ?_
            refine lv_iadd hx hb dX11_pour_196 ?_
            refine lv_aload_n hx hb dX11_pour_197 rfl (lv_at hl 2 rfl) ?_
            refine lv_iload hx hb dX11_pour_198 (lv_at hl 0 rfl) ?_
            obtain ⟨r62, M63, h64, h⟩ := bind2 h
            refine cBack C.2.2.2.2.2.2.2.2 (runV (As := [.int (r29)]) (rest := [.int ((r29) + (6)), rf g (1698)]) C hW hS (c_X11_alloy l g M61 r29 _ _ h64) kV_X11_alloy ml_X11_98 (by decide) tm_Model rfl rfl rfl hl.1 rfl (Nat.le_of_ble_eq_true rfl) ⟨Nat.le_of_ble_eq_true rfl, Nat.le_of_ble_eq_true rfl⟩ ⟨Nat.zero_le _, Nat.zero_le _⟩ dX11_pour_200) hS (fun v0 w0 H locs hp hW hS => ?_)
            obtain ⟨rfl, rfl⟩ := hp
            refine lv_aload_n hx hb dX11_pour_203 rfl (lv_at hl 2 rfl) ?_
            refine lv_iconst (v := 2) hx hb dX11_pour_204 (by decide) ?_
            obtain ⟨r65, M66, h67, h⟩ := bind2 h
            refine cBack C.2.2.2.2.2.2.2.2 (runV (As := [.int (2)]) (rest := [.int (r62), .int ((r29) + (6)), rf g (1698)]) C hW hS (c_X11_setting l g M63 2 _ _ h67) kV_X11_setting ml_X11_61 (by decide) tm_Model rfl rfl rfl hl.1 rfl (Nat.le_of_ble_eq_true rfl) ⟨Nat.le_of_ble_eq_true rfl, Nat.le_of_ble_eq_true rfl⟩ ⟨Nat.zero_le _, Nat.zero_le _⟩ dX11_pour_205) hS (fun v0 w0 H locs hp hW hS => ?_)
            obtain ⟨rfl, rfl⟩ := hp
            refine lv_aload_n hx hb dX11_pour_208 rfl (lv_at hl 2 rfl) ?_
            refine lv_iconst (v := 3) hx hb dX11_pour_209 (by decide) ?_
            obtain ⟨r68, M69, h70, h⟩ := bind2 h
            refine cBack C.2.2.2.2.2.2.2.2 (runV (As := [.int (3)]) (rest := [.int (r65), .int (r62), .int ((r29) + (6)), rf g (1698)]) C hW hS (c_X11_setting l g M66 3 _ _ h70) kV_X11_setting ml_X11_61 (by decide) tm_Model rfl rfl rfl hl.1 rfl (Nat.le_of_ble_eq_true rfl) ⟨Nat.le_of_ble_eq_true rfl, Nat.le_of_ble_eq_true rfl⟩ ⟨Nat.zero_le _, Nat.zero_le _⟩ dX11_pour_210) hS (fun v0 w0 H locs hp hW hS => ?_)
            obtain ⟨rfl, rfl⟩ := hp
            obtain ⟨r71, M72, h73, h⟩ := bind2 h
            refine cBack C.2.2.2.2.2.2.2.2 (runS (As := [.int (r62), .int (r65), .int (r68)]) (rest := [.int ((r29) + (6)), rf g (1698)]) C hW hS (c_X11_in l g M69 r62 r65 r68 _ _ h73) kS_X11_in ml_X11_68 rfl hl.1 rfl (Nat.le_of_ble_eq_true rfl) ⟨Nat.le_of_ble_eq_true rfl, Nat.le_of_ble_eq_true rfl⟩ ⟨Nat.zero_le _, Nat.zero_le _⟩ dX11_pour_213) hS (fun v0 w0 H locs hp hW hS => ?_)
            obtain ⟨rfl, rfl, zr71⟩ := hp
            refine lv_if_eq (tgt := 223) hx hb dX11_pour_216 (by decide) (fun c74 => ?_) (fun c74 => ?_)
            · rw [if_pos c74] at h
              refine lv_iconst (v := 1) hx hb dX11_pour_223 (by decide) ?_
              have s75 : vin ((r29) + (6)) 1254 := Classical.byContradiction fun q9 => by rw [if_neg q9] at h; cases h
              rw [if_pos s75] at h
              refine rIst (M' := up2 M72 21 ((r29) + (6) : Int32).toNatClampNeg (1)) C hW hS (by decide) tm_s s75 (UPD_G (by decide) rfl (by rw [tm_s, up2_gr])) dX11_pour_224 (fun H locs hW hS => ?_)
              have hW : Wd g (up2 M72 21 ((r29) + (6) : Int32).toNatClampNeg (1)) H := hW
              have h := letE h
              generalize up2 M72 21 ((r29) + (6) : Int32).toNatClampNeg (1) = M76 at hW h
              refine lv_aload_n hx hb dX11_pour_225 rfl (lv_at hl 2 rfl) ?_
              refine rGet (k := 0) C hW (by decide) tm_Model rfl inX11 (by decide) fl_X11_7 rfl dX11_pour_226 ?_
              refine lv_iload hx hb dX11_pour_229 (lv_at hl 0 rfl) ?_
              refine lv_bipush (v := 7) hx hb dX11_pour_231 (by decide) ?_
              refine lv_iadd hx hb dX11_pour_233 ?_
              refine lv_bipush (v := -4) hx hb dX11_pour_234 (by decide) ?_
              have s77 : vin ((r29) + (7)) 1254 := Classical.byContradiction fun q9 => by rw [if_neg q9] at h; cases h
              rw [if_pos s77] at h
              refine rIst (M' := up2 M76 21 ((r29) + (7) : Int32).toNatClampNeg (-4)) C hW hS (by decide) tm_s s77 (UPD_G (by decide) rfl (by rw [tm_s, up2_gr])) dX11_pour_236 (fun H locs hW hS => ?_)
              have hW : Wd g (up2 M76 21 ((r29) + (7) : Int32).toNatClampNeg (-4)) H := hW
              have h := letE h
              generalize up2 M76 21 ((r29) + (7) : Int32).toNatClampNeg (-4) = M78 at hW h
              refine lv_iload_n hx hb dX11_pour_237 rfl (lv_at hl 1 rfl) ?_
              cases h
              exact rI C hr hlk dX11_pour_238 hW hS ⟨rfl, rfl⟩
            · rw [if_neg c74] at h
              refine lv_iconst (v := 0) hx hb dX11_pour_219 (by decide) ?_
              refine lv_goto (tgt := 224) hx hb dX11_pour_220 (by decide) ?_
              have s79 : vin ((r29) + (6)) 1254 := Classical.byContradiction fun q9 => by rw [if_neg q9] at h; cases h
              rw [if_pos s79] at h
              refine rIst (M' := up2 M72 21 ((r29) + (6) : Int32).toNatClampNeg (0)) C hW hS (by decide) tm_s s79 (UPD_G (by decide) rfl (by rw [tm_s, up2_gr])) dX11_pour_224 (fun H locs hW hS => ?_)
              have hW : Wd g (up2 M72 21 ((r29) + (6) : Int32).toNatClampNeg (0)) H := hW
              have h := letE h
              generalize up2 M72 21 ((r29) + (6) : Int32).toNatClampNeg (0) = M80 at hW h
              refine lv_aload_n hx hb dX11_pour_225 rfl (lv_at hl 2 rfl) ?_
              refine rGet (k := 0) C hW (by decide) tm_Model rfl inX11 (by decide) fl_X11_7 rfl dX11_pour_226 ?_
              refine lv_iload hx hb dX11_pour_229 (lv_at hl 0 rfl) ?_
              refine lv_bipush (v := 7) hx hb dX11_pour_231 (by decide) ?_
              refine lv_iadd hx hb dX11_pour_233 ?_
              refine lv_bipush (v := -4) hx hb dX11_pour_234 (by decide) ?_
              have s81 : vin ((r29) + (7)) 1254 := Classical.byContradiction fun q9 => by rw [if_neg q9] at h; cases h
              rw [if_pos s81] at h
              refine rIst (M' := up2 M80 21 ((r29) + (7) : Int32).toNatClampNeg (-4)) C hW hS (by decide) tm_s s81 (UPD_G (by decide) rfl (by rw [tm_s, up2_gr])) dX11_pour_236 (fun H locs hW hS => ?_)
              have hW : Wd g (up2 M80 21 ((r29) + (7) : Int32).toNatClampNeg (-4)) H := hW
              have h := letE h
              generalize up2 M80 21 ((r29) + (7) : Int32).toNatClampNeg (-4) = M82 at hW h
              refine lv_iload_n hx hb dX11_pour_237 rfl (lv_at hl 1 rfl) ?_
              cases h
              exact rI C hr hlk dX11_pour_238 hW hS ⟨rfl, rfl⟩
          · rw [if_pos c21] at h
            refine lv_bipush (v := -3) hx hb dX11_pour_61 (by decide) ?_
            cases h
            exact rI C hr hlk dX11_pour_63 hW hS ⟨rfl, rfl⟩
      · rw [if_neg c15] at h
        refine lv_bipush (v := -2) hx hb dX11_pour_37 (by decide) ?_
        cases h
        exact rI C hr hlk dX11_pour_39 hW hS ⟨rfl, rfl⟩
    · rw [if_pos c8] at h
      refine lv_iconst (v := -1) hx hb dX11_pour_20 (by decide) ?_
      cases h
      exact rI C hr hlk dX11_pour_21 hW hS ⟨rfl, rfl⟩
def f_X11_lowered (M : MM) (x : Int32) (y : Int32) : Option (Int32 × MM) := (bnd2 (f_X11_of M x 3) fun r1 M2 => (bnd2 (f_X11_setting M2 5) fun r4 M5 => (bnd2 (f_X11_atBell M5 x) fun r7 M8 => (bnd2 (f_X11_weight M8 r7) fun r10 M11 => (if (r10 : Int32) = 0 then none else (if (1 : Int32) ≤ ((r1) - ((((r4) * (1000)) * (y)) / (r10)) : Int32) then some ((r1) - ((((r4) * (1000)) * (y)) / (r10)), M11) else some (1, M11)))))))
set_option maxHeartbeats 4000000 in
set_option maxRecDepth 100000 in
theorem c_X11_lowered (l : Launch) (g : GD) (M : MM) (x : Int32) (y : Int32) (r : Int32) (M2 : MM) (h : f_X11_lowered M x y = some (r, M2)) : Met l yX11_lowered (wm yX11_lowered cX11_lowered 4 (some .int)) (RM 1 22) (va_Pc [rf g (1697), .int (x), .int (y)] (WDp g M)) (QQ g (fun v w0 => v = .int r ∧ M2 = w0)) 0 0 (AA g) := by
  refine mkM (by decide +kernel) (Nat.le_of_ble_eq_true rfl) ?_
  intro p e s m below meth c C hr hlk hW hS ls hl
  have hl : lv_has ls 4 [(0, rf g (1697)), (1, .int (x)), (2, .int (y))] := hl
  have hx := C.1
  have hb := C.2.1
  have hts := C.2.2.2.2.1
  unfold f_X11_lowered at h
  refine lv_aload_n hx hb dX11_lowered_0 rfl (lv_at hl 0 rfl) ?_
  refine lv_iload_n hx hb dX11_lowered_1 rfl (lv_at hl 1 rfl) ?_
  refine lv_iconst (v := 3) hx hb dX11_lowered_2 (by decide) ?_
  obtain ⟨r1, M2, h3, h⟩ := bind2 h
  refine cBack C.2.2.2.2.2.2.2.2 (runV (As := [.int (x), .int (3)]) (rest := []) C hW hS (c_X11_of l g M x 3 _ _ h3) kV_X11_of ml_X11_104 (by decide) tm_Model rfl rfl rfl hl.1 rfl (Nat.le_of_ble_eq_true rfl) ⟨Nat.le_of_ble_eq_true rfl, Nat.le_of_ble_eq_true rfl⟩ ⟨Nat.zero_le _, Nat.zero_le _⟩ dX11_lowered_3) hS (fun v0 w0 H locs hp hW hS => ?_)
  obtain ⟨rfl, rfl⟩ := hp
  refine lv_aload_n hx hb dX11_lowered_6 rfl (lv_at hl 0 rfl) ?_
  refine lv_iconst (v := 5) hx hb dX11_lowered_7 (by decide) ?_
  obtain ⟨r4, M5, h6, h⟩ := bind2 h
  refine cBack C.2.2.2.2.2.2.2.2 (runV (As := [.int (5)]) (rest := [.int (r1)]) C hW hS (c_X11_setting l g M2 5 _ _ h6) kV_X11_setting ml_X11_61 (by decide) tm_Model rfl rfl rfl hl.1 rfl (Nat.le_of_ble_eq_true rfl) ⟨Nat.le_of_ble_eq_true rfl, Nat.le_of_ble_eq_true rfl⟩ ⟨Nat.zero_le _, Nat.zero_le _⟩ dX11_lowered_8) hS (fun v0 w0 H locs hp hW hS => ?_)
  obtain ⟨rfl, rfl⟩ := hp
  refine lv_sipush (v := 1000) hx hb dX11_lowered_11 (by decide) ?_
  refine lv_imul hx hb dX11_lowered_14 ?_
  refine lv_iload_n hx hb dX11_lowered_15 rfl (lv_at hl 2 rfl) ?_
  refine lv_imul hx hb dX11_lowered_16 ?_
  refine lv_aload_n hx hb dX11_lowered_17 rfl (lv_at hl 0 rfl) ?_
  refine lv_iload_n hx hb dX11_lowered_18 rfl (lv_at hl 1 rfl) ?_
  obtain ⟨r7, M8, h9, h⟩ := bind2 h
  refine cBack C.2.2.2.2.2.2.2.2 (runS (As := [.int (x)]) (rest := [rf g (1697), .int (((r4) * (1000)) * (y)), .int (r1)]) C hW hS (c_X11_atBell l g M5 x _ _ h9) kS_X11_atBell ml_X11_129 rfl hl.1 rfl (Nat.le_of_ble_eq_true rfl) ⟨Nat.le_of_ble_eq_true rfl, Nat.le_of_ble_eq_true rfl⟩ ⟨Nat.zero_le _, Nat.zero_le _⟩ dX11_lowered_19) hS (fun v0 w0 H locs hp hW hS => ?_)
  obtain ⟨rfl, rfl⟩ := hp
  obtain ⟨r10, M11, h12, h⟩ := bind2 h
  refine cBack C.2.2.2.2.2.2.2.2 (runV (As := [.int (r7)]) (rest := [.int (((r4) * (1000)) * (y)), .int (r1)]) C hW hS (c_X11_weight l g M8 r7 _ _ h12) kV_X11_weight ml_X11_88 (by decide) tm_Model rfl rfl rfl hl.1 rfl (Nat.le_of_ble_eq_true rfl) ⟨Nat.le_of_ble_eq_true rfl, Nat.le_of_ble_eq_true rfl⟩ ⟨Nat.zero_le _, Nat.zero_le _⟩ dX11_lowered_22) hS (fun v0 w0 H locs hp hW hS => ?_)
  obtain ⟨rfl, rfl⟩ := hp
  have s13 : ¬ ((r10 : Int32) = 0) := fun q9 => by rw [if_pos q9] at h; cases h
  rw [if_neg s13] at h
  refine lv_idiv hx hb dX11_lowered_25 s13 ?_
  refine lv_isub hx hb dX11_lowered_26 ?_
  refine lv_istore_n (lv' := [(3, .int ((r1) - ((((r4) * (1000)) * (y)) / (r10)))), (0, rf g (1697)), (1, .int (x)), (2, .int (y))]) hx hb dX11_lowered_27 rfl hl (by decide) rfl (fun ls hl => ?_)
  refine lv_iload_n hx hb dX11_lowered_28 rfl (lv_at hl 0 rfl) ?_
  refine lv_iconst (v := 1) hx hb dX11_lowered_29 (by decide) ?_
  refine lv_icmp_ge (tgt := 37) hx hb dX11_lowered_30 (by decide) (fun c14 => ?_) (fun c14 => ?_)
  · rw [if_pos c14] at h
    refine lv_iload_n hx hb dX11_lowered_37 rfl (lv_at hl 0 rfl) ?_
    cases h
    exact rI C hr hlk dX11_lowered_38 hW hS ⟨rfl, rfl⟩
  · rw [if_neg c14] at h
    refine lv_iconst (v := 1) hx hb dX11_lowered_33 (by decide) ?_
    refine lv_goto (tgt := 38) hx hb dX11_lowered_34 (by decide) ?_
    cases h
    exact rI C hr hlk dX11_lowered_38 hW hS ⟨rfl, rfl⟩
def f_X11_wouldCrack (M : MM) (x : Int32) (y : Int32) : Option (Int32 × MM) := (bnd2 (f_X11_of M x 5) fun r1 M2 => (bnd2 (f_X11_of M2 x 2) fun r4 M5 => (if (r4 : Int32) = (2 : Int32) then (bnd2 (f_X11_of M5 x 4) fun r12 M13 => (if (((r1) + (y)) * (20) : Int32) ≤ (r12 : Int32) then some (0, M13) else some (1, M13))) else (bnd2 (f_X11_of M5 x 4) fun r8 M9 => (if (((r1) + (y)) * (10) : Int32) ≤ (r8 : Int32) then some (0, M9) else some (1, M9))))))
set_option maxHeartbeats 4000000 in
set_option maxRecDepth 100000 in
theorem c_X11_wouldCrack (l : Launch) (g : GD) (M : MM) (x : Int32) (y : Int32) (r : Int32) (M2 : MM) (h : f_X11_wouldCrack M x y = some (r, M2)) : Met l yX11_wouldCrack (wm yX11_wouldCrack cX11_wouldCrack 3 (some .boolean)) (RM 1 22) (va_Pc [rf g (1697), .int (x), .int (y)] (WDp g M)) (QQ g (fun v w0 => v = .int r ∧ M2 = w0 ∧ (r = 0 ∨ r = 1))) 0 0 (AA g) := by
  refine mkM (by decide +kernel) (Nat.le_of_ble_eq_true rfl) ?_
  intro p e s m below meth c C hr hlk hW hS ls hl
  have hl : lv_has ls 3 [(0, rf g (1697)), (1, .int (x)), (2, .int (y))] := hl
  have hx := C.1
  have hb := C.2.1
  have hts := C.2.2.2.2.1
  unfold f_X11_wouldCrack at h
  refine lv_aload_n hx hb dX11_wouldCrack_0 rfl (lv_at hl 0 rfl) ?_
  refine lv_iload_n hx hb dX11_wouldCrack_1 rfl (lv_at hl 1 rfl) ?_
  refine lv_iconst (v := 5) hx hb dX11_wouldCrack_2 (by decide) ?_
  obtain ⟨r1, M2, h3, h⟩ := bind2 h
  refine cBack C.2.2.2.2.2.2.2.2 (runV (As := [.int (x), .int (5)]) (rest := []) C hW hS (c_X11_of l g M x 5 _ _ h3) kV_X11_of ml_X11_104 (by decide) tm_Model rfl rfl rfl hl.1 rfl (Nat.le_of_ble_eq_true rfl) ⟨Nat.le_of_ble_eq_true rfl, Nat.le_of_ble_eq_true rfl⟩ ⟨Nat.zero_le _, Nat.zero_le _⟩ dX11_wouldCrack_3) hS (fun v0 w0 H locs hp hW hS => ?_)
  obtain ⟨rfl, rfl⟩ := hp
  refine lv_iload_n hx hb dX11_wouldCrack_6 rfl (lv_at hl 2 rfl) ?_
  refine lv_iadd hx hb dX11_wouldCrack_7 ?_
  refine lv_aload_n hx hb dX11_wouldCrack_8 rfl (lv_at hl 0 rfl) ?_
  refine lv_iload_n hx hb dX11_wouldCrack_9 rfl (lv_at hl 1 rfl) ?_
  refine lv_iconst (v := 2) hx hb dX11_wouldCrack_10 (by decide) ?_
  obtain ⟨r4, M5, h6, h⟩ := bind2 h
  refine cBack C.2.2.2.2.2.2.2.2 (runV (As := [.int (x), .int (2)]) (rest := [.int ((r1) + (y))]) C hW hS (c_X11_of l g M2 x 2 _ _ h6) kV_X11_of ml_X11_104 (by decide) tm_Model rfl rfl rfl hl.1 rfl (Nat.le_of_ble_eq_true rfl) ⟨Nat.le_of_ble_eq_true rfl, Nat.le_of_ble_eq_true rfl⟩ ⟨Nat.zero_le _, Nat.zero_le _⟩ dX11_wouldCrack_11) hS (fun v0 w0 H locs hp hW hS => ?_)
  obtain ⟨rfl, rfl⟩ := hp
  refine lv_iconst (v := 2) hx hb dX11_wouldCrack_14 (by decide) ?_
  refine lv_icmp_ne (tgt := 23) hx hb dX11_wouldCrack_15 (by decide) (fun c7 => ?_) (fun c7 => ?_)
  · rw [if_neg c7] at h
    refine lv_bipush (v := 10) hx hb dX11_wouldCrack_23 (by decide) ?_
    refine lv_imul hx hb dX11_wouldCrack_25 ?_
    refine lv_aload_n hx hb dX11_wouldCrack_26 rfl (lv_at hl 0 rfl) ?_
    refine lv_iload_n hx hb dX11_wouldCrack_27 rfl (lv_at hl 1 rfl) ?_
    refine lv_iconst (v := 4) hx hb dX11_wouldCrack_28 (by decide) ?_
    obtain ⟨r8, M9, h10, h⟩ := bind2 h
    refine cBack C.2.2.2.2.2.2.2.2 (runV (As := [.int (x), .int (4)]) (rest := [.int (((r1) + (y)) * (10))]) C hW hS (c_X11_of l g M5 x 4 _ _ h10) kV_X11_of ml_X11_104 (by decide) tm_Model rfl rfl rfl hl.1 rfl (Nat.le_of_ble_eq_true rfl) ⟨Nat.le_of_ble_eq_true rfl, Nat.le_of_ble_eq_true rfl⟩ ⟨Nat.zero_le _, Nat.zero_le _⟩ dX11_wouldCrack_29) hS (fun v0 w0 H locs hp hW hS => ?_)
    obtain ⟨rfl, rfl⟩ := hp
    refine lv_icmp_le (tgt := 39) hx hb dX11_wouldCrack_32 (by decide) (fun c11 => ?_) (fun c11 => ?_)
    · rw [if_pos c11] at h
      refine lv_iconst (v := 0) hx hb dX11_wouldCrack_39 (by decide) ?_
      cases h
      exact rZ C hr hlk dX11_wouldCrack_40 hW hS (nar01 (Or.inl rfl)) ⟨rfl, rfl, (Or.inl rfl)⟩
    · rw [if_neg c11] at h
      refine lv_iconst (v := 1) hx hb dX11_wouldCrack_35 (by decide) ?_
      refine lv_goto (tgt := 40) hx hb dX11_wouldCrack_36 (by decide) ?_
      cases h
      exact rZ C hr hlk dX11_wouldCrack_40 hW hS (nar01 (Or.inr rfl)) ⟨rfl, rfl, (Or.inr rfl)⟩
  · rw [if_pos c7] at h
    refine lv_bipush (v := 20) hx hb dX11_wouldCrack_18 (by decide) ?_
    refine lv_goto (tgt := 25) hx hb dX11_wouldCrack_20 (by decide) ?_
    refine lv_imul hx hb dX11_wouldCrack_25 ?_
    refine lv_aload_n hx hb dX11_wouldCrack_26 rfl (lv_at hl 0 rfl) ?_
    refine lv_iload_n hx hb dX11_wouldCrack_27 rfl (lv_at hl 1 rfl) ?_
    refine lv_iconst (v := 4) hx hb dX11_wouldCrack_28 (by decide) ?_
    obtain ⟨r12, M13, h14, h⟩ := bind2 h
    refine cBack C.2.2.2.2.2.2.2.2 (runV (As := [.int (x), .int (4)]) (rest := [.int (((r1) + (y)) * (20))]) C hW hS (c_X11_of l g M5 x 4 _ _ h14) kV_X11_of ml_X11_104 (by decide) tm_Model rfl rfl rfl hl.1 rfl (Nat.le_of_ble_eq_true rfl) ⟨Nat.le_of_ble_eq_true rfl, Nat.le_of_ble_eq_true rfl⟩ ⟨Nat.zero_le _, Nat.zero_le _⟩ dX11_wouldCrack_29) hS (fun v0 w0 H locs hp hW hS => ?_)
    obtain ⟨rfl, rfl⟩ := hp
    refine lv_icmp_le (tgt := 39) hx hb dX11_wouldCrack_32 (by decide) (fun c15 => ?_) (fun c15 => ?_)
    · rw [if_pos c15] at h
      refine lv_iconst (v := 0) hx hb dX11_wouldCrack_39 (by decide) ?_
      cases h
      exact rZ C hr hlk dX11_wouldCrack_40 hW hS (nar01 (Or.inl rfl)) ⟨rfl, rfl, (Or.inl rfl)⟩
    · rw [if_neg c15] at h
      refine lv_iconst (v := 1) hx hb dX11_wouldCrack_35 (by decide) ?_
      refine lv_goto (tgt := 40) hx hb dX11_wouldCrack_36 (by decide) ?_
      cases h
      exact rZ C hr hlk dX11_wouldCrack_40 hW hS (nar01 (Or.inr rfl)) ⟨rfl, rfl, (Or.inr rfl)⟩
def f_X11_tune (M : MM) (x : Int32) (y : Int32) : Option (Int32 × MM) := (bnd2 (f_X11_isBell M x) fun r1 M2 => (if (r1 : Int32) = 0 then some (-1, M2) else (bnd2 (f_X11_in M2 y 1 1000) fun r5 M6 => (if (r5 : Int32) = 0 then some (-1, M6) else (bnd2 (f_X11_of M6 x 6) fun r9 M10 => (if (r9 : Int32) = 0 then (bnd2 (f_X11_atBell M10 x) fun r13 M14 => (bnd2 (f_X11_weight M14 r13) fun r16 M17 => (if (y : Int32) < (r16 : Int32) then (bnd2 (f_X11_keeps M17 ) fun r20 M21 => (bnd2 (f_X11_atBell M21 x) fun r23 M24 => (bnd2 (f_X11_lowered M24 x y) fun r26 M27 => (if vin ((r23) + (3)) 1254 then (letB (up2 M27 21 ((r23) + (3) : Int32).toNatClampNeg (r26)) fun M30 => (bnd2 (f_X11_wouldCrack M30 x y) fun r31 M32 => (if (r31 : Int32) = 0 then (if vin ((r23) + (6)) 1254 then (letB (up2 M32 21 ((r23) + (6) : Int32).toNatClampNeg (0)) fun M36 => (if vin ((r23) + (5)) 1254 then (if vin ((r23) + (5)) 1254 then (letB (up2 M36 21 ((r23) + (5) : Int32).toNatClampNeg ((M36 21 ((r23) + (5) : Int32).toNatClampNeg) + (y))) fun M39 => (bnd2 (f_X11_scraps M39 r23 y 1) fun r40 M41 => (if vin ((r23) + (3)) 1254 then some (M41 21 ((r23) + (3) : Int32).toNatClampNeg, M41) else none))) else none) else none)) else none) else (if vin ((r23) + (6)) 1254 then (letB (up2 M32 21 ((r23) + (6) : Int32).toNatClampNeg (1)) fun M45 => (if vin ((r23) + (5)) 1254 then (if vin ((r23) + (5)) 1254 then (letB (up2 M45 21 ((r23) + (5) : Int32).toNatClampNeg ((M45 21 ((r23) + (5) : Int32).toNatClampNeg) + (y))) fun M48 => (bnd2 (f_X11_scraps M48 r23 y 1) fun r49 M50 => (if vin ((r23) + (3)) 1254 then some (M50 21 ((r23) + (3) : Int32).toNatClampNeg, M50) else none))) else none) else none)) else none)))) else none)))) else some (-2, M17)))) else some (-2, M10)))))))
set_option maxHeartbeats 4000000 in
set_option maxRecDepth 100000 in
theorem c_X11_tune (l : Launch) (g : GD) (M : MM) (x : Int32) (y : Int32) (r : Int32) (M2 : MM) (h : f_X11_tune M x y = some (r, M2)) : Met l yX11_tune (wm yX11_tune cX11_tune 4 (some .int)) (RM 3 71) (va_Pc [rf g (1697), .int (x), .int (y)] (WDp g M)) (QQ g (fun v w0 => v = .int r ∧ M2 = w0)) 0 0 (AA g) := by
  refine mkM (by decide +kernel) (Nat.le_of_ble_eq_true rfl) ?_
  intro p e s m below meth c C hr hlk hW hS ls hl
  have hl : lv_has ls 4 [(0, rf g (1697)), (1, .int (x)), (2, .int (y))] := hl
  have hx := C.1
  have hb := C.2.1
  have hts := C.2.2.2.2.1
  unfold f_X11_tune at h
  refine lv_aload_n hx hb dX11_tune_0 rfl (lv_at hl 0 rfl) ?_
  refine lv_iload_n hx hb dX11_tune_1 rfl (lv_at hl 1 rfl) ?_
  obtain ⟨r1, M2, h3, h⟩ := bind2 h
  refine cBack C.2.2.2.2.2.2.2.2 (runV (As := [.int (x)]) (rest := []) C hW hS (c_X11_isBell l g M x _ _ h3) kV_X11_isBell ml_X11_138 (by decide) tm_Model rfl rfl rfl hl.1 rfl (Nat.le_of_ble_eq_true rfl) ⟨Nat.le_of_ble_eq_true rfl, Nat.le_of_ble_eq_true rfl⟩ ⟨Nat.zero_le _, Nat.zero_le _⟩ dX11_tune_2) hS (fun v0 w0 H locs hp hW hS => ?_)
  obtain ⟨rfl, rfl, zr1⟩ := hp
  refine lv_if_eq (tgt := 19) hx hb dX11_tune_5 (by decide) (fun c4 => ?_) (fun c4 => ?_)
  · rw [if_pos c4] at h
    refine lv_iconst (v := -1) hx hb dX11_tune_19 (by decide) ?_
    cases h
    exact rI C hr hlk dX11_tune_20 hW hS ⟨rfl, rfl⟩
  · rw [if_neg c4] at h
    refine lv_iload_n hx hb dX11_tune_8 rfl (lv_at hl 2 rfl) ?_
    refine lv_iconst (v := 1) hx hb dX11_tune_9 (by decide) ?_
    refine lv_sipush (v := 1000) hx hb dX11_tune_10 (by decide) ?_
    obtain ⟨r5, M6, h7, h⟩ := bind2 h
    refine cBack C.2.2.2.2.2.2.2.2 (runS (As := [.int (y), .int (1), .int (1000)]) (rest := []) C hW hS (c_X11_in l g M2 y 1 1000 _ _ h7) kS_X11_in ml_X11_68 rfl hl.1 rfl (Nat.le_of_ble_eq_true rfl) ⟨Nat.le_of_ble_eq_true rfl, Nat.le_of_ble_eq_true rfl⟩ ⟨Nat.zero_le _, Nat.zero_le _⟩ dX11_tune_13) hS (fun v0 w0 H locs hp hW hS => ?_)
    obtain ⟨rfl, rfl, zr5⟩ := hp
    refine lv_if_ne (tgt := 21) hx hb dX11_tune_16 (by decide) (fun c8 => ?_) (fun c8 => ?_)
    · rw [if_neg c8] at h
      refine lv_aload_n hx hb dX11_tune_21 rfl (lv_at hl 0 rfl) ?_
      refine lv_iload_n hx hb dX11_tune_22 rfl (lv_at hl 1 rfl) ?_
      refine lv_bipush (v := 6) hx hb dX11_tune_23 (by decide) ?_
      obtain ⟨r9, M10, h11, h⟩ := bind2 h
      refine cBack C.2.2.2.2.2.2.2.2 (runV (As := [.int (x), .int (6)]) (rest := []) C hW hS (c_X11_of l g M6 x 6 _ _ h11) kV_X11_of ml_X11_104 (by decide) tm_Model rfl rfl rfl hl.1 rfl (Nat.le_of_ble_eq_true rfl) ⟨Nat.le_of_ble_eq_true rfl, Nat.le_of_ble_eq_true rfl⟩ ⟨Nat.zero_le _, Nat.zero_le _⟩ dX11_tune_25) hS (fun v0 w0 H locs hp hW hS => ?_)
      obtain ⟨rfl, rfl⟩ := hp
      refine lv_if_ne (tgt := 43) hx hb dX11_tune_28 (by decide) (fun c12 => ?_) (fun c12 => ?_)
      · rw [if_neg c12] at h
        refine lv_bipush (v := -2) hx hb dX11_tune_43 (by decide) ?_
        cases h
        exact rI C hr hlk dX11_tune_45 hW hS ⟨rfl, rfl⟩
      · rw [if_pos c12] at h
        refine lv_aload_n hx hb dX11_tune_31 rfl (lv_at hl 0 rfl) ?_
        refine lv_iload_n hx hb dX11_tune_32 rfl (lv_at hl 1 rfl) ?_
        obtain ⟨r13, M14, h15, h⟩ := bind2 h
        refine cBack C.2.2.2.2.2.2.2.2 (runS (As := [.int (x)]) (rest := [rf g (1697)]) C hW hS (c_X11_atBell l g M10 x _ _ h15) kS_X11_atBell ml_X11_129 rfl hl.1 rfl (Nat.le_of_ble_eq_true rfl) ⟨Nat.le_of_ble_eq_true rfl, Nat.le_of_ble_eq_true rfl⟩ ⟨Nat.zero_le _, Nat.zero_le _⟩ dX11_tune_33) hS (fun v0 w0 H locs hp hW hS => ?_)
        obtain ⟨rfl, rfl⟩ := hp
        obtain ⟨r16, M17, h18, h⟩ := bind2 h
        refine cBack C.2.2.2.2.2.2.2.2 (runV (As := [.int (r13)]) (rest := []) C hW hS (c_X11_weight l g M14 r13 _ _ h18) kV_X11_weight ml_X11_88 (by decide) tm_Model rfl rfl rfl hl.1 rfl (Nat.le_of_ble_eq_true rfl) ⟨Nat.le_of_ble_eq_true rfl, Nat.le_of_ble_eq_true rfl⟩ ⟨Nat.zero_le _, Nat.zero_le _⟩ dX11_tune_36) hS (fun v0 w0 H locs hp hW hS => ?_)
        obtain ⟨rfl, rfl⟩ := hp
        refine lv_iload_n hx hb dX11_tune_39 rfl (lv_at hl 2 rfl) ?_
        refine lv_icmp_gt (tgt := 46) hx hb dX11_tune_40 (by decide) (fun c19 => ?_) (fun c19 => ?_)
        · rw [if_pos c19] at h
          refine lv_aload_n hx hb dX11_tune_46 rfl (lv_at hl 0 rfl) ?_
          obtain ⟨r20, M21, h22, h⟩ := bind2 h
          refine cBackV C.2.2.2.2.2.2.2.2 (runV (As := []) (rest := []) C hW hS (c_X11_keeps l g M17  _ _ h22) kV_X11_keeps ml_X11_85 (by decide) tm_Model rfl rfl rfl hl.1 rfl (Nat.le_of_ble_eq_true rfl) ⟨Nat.le_of_ble_eq_true rfl, Nat.le_of_ble_eq_true rfl⟩ ⟨Nat.zero_le _, Nat.zero_le _⟩ dX11_tune_47) hS (fun v0 H locs hp hW hS => ?_)
          subst hp
          refine lv_iload_n hx hb dX11_tune_50 rfl (lv_at hl 1 rfl) ?_
          obtain ⟨r23, M24, h25, h⟩ := bind2 h
          refine cBack C.2.2.2.2.2.2.2.2 (runS (As := [.int (x)]) (rest := []) C hW hS (c_X11_atBell l g M21 x _ _ h25) kS_X11_atBell ml_X11_129 rfl hl.1 rfl (Nat.le_of_ble_eq_true rfl) ⟨Nat.le_of_ble_eq_true rfl, Nat.le_of_ble_eq_true rfl⟩ ⟨Nat.zero_le _, Nat.zero_le _⟩ dX11_tune_51) hS (fun v0 w0 H locs hp hW hS => ?_)
          obtain ⟨rfl, rfl⟩ := hp
          refine lv_istore_n (lv' := [(3, .int (r23)), (0, rf g (1697)), (1, .int (x)), (2, .int (y))]) hx hb dX11_tune_54 rfl hl (by decide) rfl (fun ls hl => ?_)
          refine lv_aload_n hx hb dX11_tune_55 rfl (lv_at hl 1 rfl) ?_
          refine rGet (k := 0) C hW (by decide) tm_Model rfl inX11 (by decide) fl_X11_7 rfl dX11_tune_56 ?_
          refine lv_iload_n hx hb dX11_tune_59 rfl (lv_at hl 0 rfl) ?_
          refine lv_iconst (v := 3) hx hb dX11_tune_60 (by decide) ?_
          refine lv_iadd hx hb dX11_tune_61 ?_
          refine lv_aload_n hx hb dX11_tune_62 rfl (lv_at hl 1 rfl) ?_
          refine lv_iload_n hx hb dX11_tune_63 rfl (lv_at hl 2 rfl) ?_
          refine lv_iload_n hx hb dX11_tune_64 rfl (lv_at hl 3 rfl) ?_
          obtain ⟨r26, M27, h28, h⟩ := bind2 h
          refine cBack C.2.2.2.2.2.2.2.2 (runV (As := [.int (x), .int (y)]) (rest := [.int ((r23) + (3)), rf g (1698)]) C hW hS (c_X11_lowered l g M24 x y _ _ h28) kV_X11_lowered ml_X11_141 (by decide) tm_Model rfl rfl rfl hl.1 rfl (Nat.le_of_ble_eq_true rfl) ⟨Nat.le_of_ble_eq_true rfl, Nat.le_of_ble_eq_true rfl⟩ ⟨Nat.zero_le _, Nat.zero_le _⟩ dX11_tune_65) hS (fun v0 w0 H locs hp hW hS => ?_)
          obtain ⟨rfl, rfl⟩ := hp
          have s29 : vin ((r23) + (3)) 1254 := Classical.byContradiction fun q9 => by rw [if_neg q9] at h; cases h
          rw [if_pos s29] at h
          refine rIst (M' := up2 M27 21 ((r23) + (3) : Int32).toNatClampNeg (r26)) C hW hS (by decide) tm_s s29 (UPD_G (by decide) rfl (by rw [tm_s, up2_gr])) dX11_tune_68 (fun H locs hW hS => ?_)
          have hW : Wd g (up2 M27 21 ((r23) + (3) : Int32).toNatClampNeg (r26)) H := hW
          have h := letE h
          generalize up2 M27 21 ((r23) + (3) : Int32).toNatClampNeg (r26) = M30 at hW h
          refine lv_aload_n hx hb dX11_tune_69 rfl (lv_at hl 1 rfl) ?_
          refine rGet (k := 0) C hW (by decide) tm_Model rfl inX11 (by decide) fl_X11_7 rfl dX11_tune_70 ?_
          refine lv_iload_n hx hb dX11_tune_73 rfl (lv_at hl 0 rfl) ?_
          refine lv_bipush (v := 6) hx hb dX11_tune_74 (by decide) ?_
          refine lv_iadd hx hb dX11_tune_76 ?_
          refine lv_aload_n hx hb dX11_tune_77 rfl (lv_at hl 1 rfl) ?_
          refine lv_iload_n hx hb dX11_tune_78 rfl (lv_at hl 2 rfl) ?_
          refine lv_iload_n hx hb dX11_tune_79 rfl (lv_at hl 3 rfl) ?_
          obtain ⟨r31, M32, h33, h⟩ := bind2 h
          refine cBack C.2.2.2.2.2.2.2.2 (runV (As := [.int (x), .int (y)]) (rest := [.int ((r23) + (6)), rf g (1698)]) C hW hS (c_X11_wouldCrack l g M30 x y _ _ h33) kV_X11_wouldCrack ml_X11_144 (by decide) tm_Model rfl rfl rfl hl.1 rfl (Nat.le_of_ble_eq_true rfl) ⟨Nat.le_of_ble_eq_true rfl, Nat.le_of_ble_eq_true rfl⟩ ⟨Nat.zero_le _, Nat.zero_le _⟩ dX11_tune_80) hS (fun v0 w0 H locs hp hW hS => ?_)
          obtain ⟨rfl, rfl, zr31⟩ := hp
          refine lv_if_eq (tgt := 90) hx hb dX11_tune_83 (by decide) (fun c34 => ?_) (fun c34 => ?_)
          · rw [if_pos c34] at h
            refine lv_iconst (v := 0) hx hb dX11_tune_90 (by decide) ?_
            have s35 : vin ((r23) + (6)) 1254 := Classical.byContradiction fun q9 => by rw [if_neg q9] at h; cases h
            rw [if_pos s35] at h
            refine rIst (M' := up2 M32 21 ((r23) + (6) : Int32).toNatClampNeg (0)) C hW hS (by decide) tm_s s35 (UPD_G (by decide) rfl (by rw [tm_s, up2_gr])) dX11_tune_91 (fun H locs hW hS => ?_)
            have hW : Wd g (up2 M32 21 ((r23) + (6) : Int32).toNatClampNeg (0)) H := hW
            have h := letE h
            generalize up2 M32 21 ((r23) + (6) : Int32).toNatClampNeg (0) = M36 at hW h
            refine lv_aload_n hx hb dX11_tune_92 rfl (lv_at hl 1 rfl) ?_
            refine rGet (k := 0) C hW (by decide) tm_Model rfl inX11 (by decide) fl_X11_7 rfl dX11_tune_93 ?_
            refine lv_iload_n hx hb dX11_tune_96 rfl (lv_at hl 0 rfl) ?_
            refine lv_iconst (v := 5) hx hb dX11_tune_97 (by decide) ?_
            refine lv_iadd hx hb dX11_tune_98 ?_
            refine lv_dup2_11 hx hb dX11_tune_99 rfl rfl ?_
            have s37 : vin ((r23) + (5)) 1254 := Classical.byContradiction fun q9 => by rw [if_neg q9] at h; cases h
            rw [if_pos s37] at h
            refine rIld C hW (by decide) tm_s s37 dX11_tune_100 ?_
            refine lv_iload_n hx hb dX11_tune_101 rfl (lv_at hl 3 rfl) ?_
            refine lv_iadd hx hb dX11_tune_102 ?_
            have s38 : vin ((r23) + (5)) 1254 := Classical.byContradiction fun q9 => by rw [if_neg q9] at h; cases h
            rw [if_pos s38] at h
            refine rIst (M' := up2 M36 21 ((r23) + (5) : Int32).toNatClampNeg ((M36 21 ((r23) + (5) : Int32).toNatClampNeg) + (y))) C hW hS (by decide) tm_s s38 (UPD_G (by decide) rfl (by rw [tm_s, up2_gr])) dX11_tune_103 (fun H locs hW hS => ?_)
            have hW : Wd g (up2 M36 21 ((r23) + (5) : Int32).toNatClampNeg ((M36 21 ((r23) + (5) : Int32).toNatClampNeg) + (y))) H := hW
            have h := letE h
            generalize up2 M36 21 ((r23) + (5) : Int32).toNatClampNeg ((M36 21 ((r23) + (5) : Int32).toNatClampNeg) + (y)) = M39 at hW h
            refine lv_aload_n hx hb dX11_tune_104 rfl (lv_at hl 1 rfl) ?_
            refine lv_iload_n hx hb dX11_tune_105 rfl (lv_at hl 0 rfl) ?_
            refine lv_iload_n hx hb dX11_tune_106 rfl (lv_at hl 3 rfl) ?_
            refine lv_iconst (v := 1) hx hb dX11_tune_107 (by decide) ?_
            obtain ⟨r40, M41, h42, h⟩ := bind2 h
            refine cBackV C.2.2.2.2.2.2.2.2 (runV (As := [.int (r23), .int (y), .int (1)]) (rest := []) C hW hS (c_X11_scraps l g M39 r23 y 1 _ _ h42) kV_X11_scraps ml_X11_132 (by decide) tm_Model rfl rfl rfl hl.1 rfl (Nat.le_of_ble_eq_true rfl) ⟨Nat.le_of_ble_eq_true rfl, Nat.le_of_ble_eq_true rfl⟩ ⟨Nat.zero_le _, Nat.zero_le _⟩ dX11_tune_108) hS (fun v0 H locs hp hW hS => ?_)
            subst hp
            refine lv_aload_n hx hb dX11_tune_111 rfl (lv_at hl 1 rfl) ?_
            refine rGet (k := 0) C hW (by decide) tm_Model rfl inX11 (by decide) fl_X11_7 rfl dX11_tune_112 ?_
            refine lv_iload_n hx hb dX11_tune_115 rfl (lv_at hl 0 rfl) ?_
            refine lv_iconst (v := 3) hx hb dX11_tune_116 (by decide) ?_
            refine lv_iadd hx hb dX11_tune_117 ?_
            have s43 : vin ((r23) + (3)) 1254 := Classical.byContradiction fun q9 => by rw [if_neg q9] at h; cases h
            rw [if_pos s43] at h
            refine rIld C hW (by decide) tm_s s43 dX11_tune_118 ?_
            cases h
            exact rI C hr hlk dX11_tune_119 hW hS ⟨rfl, rfl⟩
          · rw [if_neg c34] at h
            refine lv_iconst (v := 1) hx hb dX11_tune_86 (by decide) ?_
            refine lv_goto (tgt := 91) hx hb dX11_tune_87 (by decide) ?_
            have s44 : vin ((r23) + (6)) 1254 := Classical.byContradiction fun q9 => by rw [if_neg q9] at h; cases h
            rw [if_pos s44] at h
            refine rIst (M' := up2 M32 21 ((r23) + (6) : Int32).toNatClampNeg (1)) C hW hS (by decide) tm_s s44 (UPD_G (by decide) rfl (by rw [tm_s, up2_gr])) dX11_tune_91 (fun H locs hW hS => ?_)
            have hW : Wd g (up2 M32 21 ((r23) + (6) : Int32).toNatClampNeg (1)) H := hW
            have h := letE h
            generalize up2 M32 21 ((r23) + (6) : Int32).toNatClampNeg (1) = M45 at hW h
            refine lv_aload_n hx hb dX11_tune_92 rfl (lv_at hl 1 rfl) ?_
            refine rGet (k := 0) C hW (by decide) tm_Model rfl inX11 (by decide) fl_X11_7 rfl dX11_tune_93 ?_
            refine lv_iload_n hx hb dX11_tune_96 rfl (lv_at hl 0 rfl) ?_
            refine lv_iconst (v := 5) hx hb dX11_tune_97 (by decide) ?_
            refine lv_iadd hx hb dX11_tune_98 ?_
            refine lv_dup2_11 hx hb dX11_tune_99 rfl rfl ?_
            have s46 : vin ((r23) + (5)) 1254 := Classical.byContradiction fun q9 => by rw [if_neg q9] at h; cases h
            rw [if_pos s46] at h
            refine rIld C hW (by decide) tm_s s46 dX11_tune_100 ?_
            refine lv_iload_n hx hb dX11_tune_101 rfl (lv_at hl 3 rfl) ?_
            refine lv_iadd hx hb dX11_tune_102 ?_
            have s47 : vin ((r23) + (5)) 1254 := Classical.byContradiction fun q9 => by rw [if_neg q9] at h; cases h
            rw [if_pos s47] at h
            refine rIst (M' := up2 M45 21 ((r23) + (5) : Int32).toNatClampNeg ((M45 21 ((r23) + (5) : Int32).toNatClampNeg) + (y))) C hW hS (by decide) tm_s s47 (UPD_G (by decide) rfl (by rw [tm_s, up2_gr])) dX11_tune_103 (fun H locs hW hS => ?_)
            have hW : Wd g (up2 M45 21 ((r23) + (5) : Int32).toNatClampNeg ((M45 21 ((r23) + (5) : Int32).toNatClampNeg) + (y))) H := hW
            have h := letE h
            generalize up2 M45 21 ((r23) + (5) : Int32).toNatClampNeg ((M45 21 ((r23) + (5) : Int32).toNatClampNeg) + (y)) = M48 at hW h
            refine lv_aload_n hx hb dX11_tune_104 rfl (lv_at hl 1 rfl) ?_
            refine lv_iload_n hx hb dX11_tune_105 rfl (lv_at hl 0 rfl) ?_
            refine lv_iload_n hx hb dX11_tune_106 rfl (lv_at hl 3 rfl) ?_
            refine lv_iconst (v := 1) hx hb dX11_tune_107 (by decide) ?_
            obtain ⟨r49, M50, h51, h⟩ := bind2 h
            refine cBackV C.2.2.2.2.2.2.2.2 (runV (As := [.int (r23), .int (y), .int (1)]) (rest := []) C hW hS (c_X11_scraps l g M48 r23 y 1 _ _ h51) kV_X11_scraps ml_X11_132 (by decide) tm_Model rfl rfl rfl hl.1 rfl (Nat.le_of_ble_eq_true rfl) ⟨Nat.le_of_ble_eq_true rfl, Nat.le_of_ble_eq_true rfl⟩ ⟨Nat.zero_le _, Nat.zero_le _⟩ dX11_tune_108) hS (fun v0 H locs hp hW hS => ?_)
            subst hp
            refine lv_aload_n hx hb dX11_tune_111 rfl (lv_at hl 1 rfl) ?_
            refine rGet (k := 0) C hW (by decide) tm_Model rfl inX11 (by decide) fl_X11_7 rfl dX11_tune_112 ?_
            refine lv_iload_n hx hb dX11_tune_115 rfl (lv_at hl 0 rfl) ?_
            refine lv_iconst (v := 3) hx hb dX11_tune_116 (by decide) ?_
            refine lv_iadd hx hb dX11_tune_117 ?_
            have s52 : vin ((r23) + (3)) 1254 := Classical.byContradiction fun q9 => by rw [if_neg q9] at h; cases h
            rw [if_pos s52] at h
            refine rIld C hW (by decide) tm_s s52 dX11_tune_118 ?_
            cases h
            exact rI C hr hlk dX11_tune_119 hW hS ⟨rfl, rfl⟩
        · rw [if_neg c19] at h
          refine lv_bipush (v := -2) hx hb dX11_tune_43 (by decide) ?_
          cases h
          exact rI C hr hlk dX11_tune_45 hW hS ⟨rfl, rfl⟩
    · rw [if_pos c8] at h
      refine lv_iconst (v := -1) hx hb dX11_tune_19 (by decide) ?_
      cases h
      exact rI C hr hlk dX11_tune_20 hW hS ⟨rfl, rfl⟩
def f_X11_smash (M : MM) (x : Int32) : Option (Int32 × MM) := (bnd2 (f_X11_isBell M x) fun r1 M2 => (if (r1 : Int32) = 0 then some (-1, M2) else (bnd2 (f_X11_isHere M2 x) fun r5 M6 => (if (r5 : Int32) = 0 then some (-2, M6) else (bnd2 (f_X11_keeps M6 ) fun r9 M10 => (bnd2 (f_X11_atBell M10 x) fun r12 M13 => (bnd2 (f_X11_weight M13 r12) fun r15 M16 => (bnd2 (f_X11_atBell M16 x) fun r18 M19 => (bnd2 (f_X11_scraps M19 r18 r15 2) fun r21 M22 => (bnd2 (f_X11_atBell M22 x) fun r24 M25 => (if vin ((r24) + (6)) 1254 then (letB (up2 M25 21 ((r24) + (6) : Int32).toNatClampNeg (3)) fun M28 => some (r15, M28)) else none)))))))))))
set_option maxHeartbeats 4000000 in
set_option maxRecDepth 100000 in
theorem c_X11_smash (l : Launch) (g : GD) (M : MM) (x : Int32) (r : Int32) (M2 : MM) (h : f_X11_smash M x = some (r, M2)) : Met l yX11_smash (wm yX11_smash cX11_smash 3 (some .int)) (RM 3 71) (va_Pc [rf g (1697), .int (x)] (WDp g M)) (QQ g (fun v w0 => v = .int r ∧ M2 = w0)) 0 0 (AA g) := by
  refine mkM (by decide +kernel) (Nat.le_of_ble_eq_true rfl) ?_
  intro p e s m below meth c C hr hlk hW hS ls hl
  have hl : lv_has ls 3 [(0, rf g (1697)), (1, .int (x))] := hl
  have hx := C.1
  have hb := C.2.1
  have hts := C.2.2.2.2.1
  unfold f_X11_smash at h
  refine lv_aload_n hx hb dX11_smash_0 rfl (lv_at hl 0 rfl) ?_
  refine lv_iload_n hx hb dX11_smash_1 rfl (lv_at hl 1 rfl) ?_
  obtain ⟨r1, M2, h3, h⟩ := bind2 h
  refine cBack C.2.2.2.2.2.2.2.2 (runV (As := [.int (x)]) (rest := []) C hW hS (c_X11_isBell l g M x _ _ h3) kV_X11_isBell ml_X11_138 (by decide) tm_Model rfl rfl rfl hl.1 rfl (Nat.le_of_ble_eq_true rfl) ⟨Nat.le_of_ble_eq_true rfl, Nat.le_of_ble_eq_true rfl⟩ ⟨Nat.zero_le _, Nat.zero_le _⟩ dX11_smash_2) hS (fun v0 w0 H locs hp hW hS => ?_)
  obtain ⟨rfl, rfl, zr1⟩ := hp
  refine lv_if_ne (tgt := 10) hx hb dX11_smash_5 (by decide) (fun c4 => ?_) (fun c4 => ?_)
  · rw [if_neg c4] at h
    refine lv_aload_n hx hb dX11_smash_10 rfl (lv_at hl 0 rfl) ?_
    refine lv_iload_n hx hb dX11_smash_11 rfl (lv_at hl 1 rfl) ?_
    obtain ⟨r5, M6, h7, h⟩ := bind2 h
    refine cBack C.2.2.2.2.2.2.2.2 (runV (As := [.int (x)]) (rest := []) C hW hS (c_X11_isHere l g M2 x _ _ h7) kV_X11_isHere ml_X11_107 (by decide) tm_Model rfl rfl rfl hl.1 rfl (Nat.le_of_ble_eq_true rfl) ⟨Nat.le_of_ble_eq_true rfl, Nat.le_of_ble_eq_true rfl⟩ ⟨Nat.zero_le _, Nat.zero_le _⟩ dX11_smash_12) hS (fun v0 w0 H locs hp hW hS => ?_)
    obtain ⟨rfl, rfl, zr5⟩ := hp
    refine lv_if_ne (tgt := 21) hx hb dX11_smash_15 (by decide) (fun c8 => ?_) (fun c8 => ?_)
    · rw [if_neg c8] at h
      refine lv_aload_n hx hb dX11_smash_21 rfl (lv_at hl 0 rfl) ?_
      obtain ⟨r9, M10, h11, h⟩ := bind2 h
      refine cBackV C.2.2.2.2.2.2.2.2 (runV (As := []) (rest := []) C hW hS (c_X11_keeps l g M6  _ _ h11) kV_X11_keeps ml_X11_85 (by decide) tm_Model rfl rfl rfl hl.1 rfl (Nat.le_of_ble_eq_true rfl) ⟨Nat.le_of_ble_eq_true rfl, Nat.le_of_ble_eq_true rfl⟩ ⟨Nat.zero_le _, Nat.zero_le _⟩ dX11_smash_22) hS (fun v0 H locs hp hW hS => ?_)
      subst hp
      refine lv_aload_n hx hb dX11_smash_25 rfl (lv_at hl 0 rfl) ?_
      refine lv_iload_n hx hb dX11_smash_26 rfl (lv_at hl 1 rfl) ?_
      obtain ⟨r12, M13, h14, h⟩ := bind2 h
      refine cBack C.2.2.2.2.2.2.2.2 (runS (As := [.int (x)]) (rest := [rf g (1697)]) C hW hS (c_X11_atBell l g M10 x _ _ h14) kS_X11_atBell ml_X11_129 rfl hl.1 rfl (Nat.le_of_ble_eq_true rfl) ⟨Nat.le_of_ble_eq_true rfl, Nat.le_of_ble_eq_true rfl⟩ ⟨Nat.zero_le _, Nat.zero_le _⟩ dX11_smash_27) hS (fun v0 w0 H locs hp hW hS => ?_)
      obtain ⟨rfl, rfl⟩ := hp
      obtain ⟨r15, M16, h17, h⟩ := bind2 h
      refine cBack C.2.2.2.2.2.2.2.2 (runV (As := [.int (r12)]) (rest := []) C hW hS (c_X11_weight l g M13 r12 _ _ h17) kV_X11_weight ml_X11_88 (by decide) tm_Model rfl rfl rfl hl.1 rfl (Nat.le_of_ble_eq_true rfl) ⟨Nat.le_of_ble_eq_true rfl, Nat.le_of_ble_eq_true rfl⟩ ⟨Nat.zero_le _, Nat.zero_le _⟩ dX11_smash_30) hS (fun v0 w0 H locs hp hW hS => ?_)
      obtain ⟨rfl, rfl⟩ := hp
      refine lv_istore_n (lv' := [(2, .int (r15)), (0, rf g (1697)), (1, .int (x))]) hx hb dX11_smash_33 rfl hl (by decide) rfl (fun ls hl => ?_)
      refine lv_aload_n hx hb dX11_smash_34 rfl (lv_at hl 1 rfl) ?_
      refine lv_iload_n hx hb dX11_smash_35 rfl (lv_at hl 2 rfl) ?_
      obtain ⟨r18, M19, h20, h⟩ := bind2 h
      refine cBack C.2.2.2.2.2.2.2.2 (runS (As := [.int (x)]) (rest := [rf g (1697)]) C hW hS (c_X11_atBell l g M16 x _ _ h20) kS_X11_atBell ml_X11_129 rfl hl.1 rfl (Nat.le_of_ble_eq_true rfl) ⟨Nat.le_of_ble_eq_true rfl, Nat.le_of_ble_eq_true rfl⟩ ⟨Nat.zero_le _, Nat.zero_le _⟩ dX11_smash_36) hS (fun v0 w0 H locs hp hW hS => ?_)
      obtain ⟨rfl, rfl⟩ := hp
      refine lv_iload_n hx hb dX11_smash_39 rfl (lv_at hl 0 rfl) ?_
      refine lv_iconst (v := 2) hx hb dX11_smash_40 (by decide) ?_
      obtain ⟨r21, M22, h23, h⟩ := bind2 h
      refine cBackV C.2.2.2.2.2.2.2.2 (runV (As := [.int (r18), .int (r15), .int (2)]) (rest := []) C hW hS (c_X11_scraps l g M19 r18 r15 2 _ _ h23) kV_X11_scraps ml_X11_132 (by decide) tm_Model rfl rfl rfl hl.1 rfl (Nat.le_of_ble_eq_true rfl) ⟨Nat.le_of_ble_eq_true rfl, Nat.le_of_ble_eq_true rfl⟩ ⟨Nat.zero_le _, Nat.zero_le _⟩ dX11_smash_41) hS (fun v0 H locs hp hW hS => ?_)
      subst hp
      refine lv_aload_n hx hb dX11_smash_44 rfl (lv_at hl 1 rfl) ?_
      refine rGet (k := 0) C hW (by decide) tm_Model rfl inX11 (by decide) fl_X11_7 rfl dX11_smash_45 ?_
      refine lv_iload_n hx hb dX11_smash_48 rfl (lv_at hl 2 rfl) ?_
      obtain ⟨r24, M25, h26, h⟩ := bind2 h
      refine cBack C.2.2.2.2.2.2.2.2 (runS (As := [.int (x)]) (rest := [rf g (1698)]) C hW hS (c_X11_atBell l g M22 x _ _ h26) kS_X11_atBell ml_X11_129 rfl hl.1 rfl (Nat.le_of_ble_eq_true rfl) ⟨Nat.le_of_ble_eq_true rfl, Nat.le_of_ble_eq_true rfl⟩ ⟨Nat.zero_le _, Nat.zero_le _⟩ dX11_smash_49) hS (fun v0 w0 H locs hp hW hS => ?_)
      obtain ⟨rfl, rfl⟩ := hp
      refine lv_bipush (v := 6) hx hb dX11_smash_52 (by decide) ?_
      refine lv_iadd hx hb dX11_smash_54 ?_
      refine lv_iconst (v := 3) hx hb dX11_smash_55 (by decide) ?_
      have s27 : vin ((r24) + (6)) 1254 := Classical.byContradiction fun q9 => by rw [if_neg q9] at h; cases h
      rw [if_pos s27] at h
      refine rIst (M' := up2 M25 21 ((r24) + (6) : Int32).toNatClampNeg (3)) C hW hS (by decide) tm_s s27 (UPD_G (by decide) rfl (by rw [tm_s, up2_gr])) dX11_smash_56 (fun H locs hW hS => ?_)
      have hW : Wd g (up2 M25 21 ((r24) + (6) : Int32).toNatClampNeg (3)) H := hW
      have h := letE h
      generalize up2 M25 21 ((r24) + (6) : Int32).toNatClampNeg (3) = M28 at hW h
      refine lv_iload_n hx hb dX11_smash_57 rfl (lv_at hl 0 rfl) ?_
      cases h
      exact rI C hr hlk dX11_smash_58 hW hS ⟨rfl, rfl⟩
    · rw [if_pos c8] at h
      refine lv_bipush (v := -2) hx hb dX11_smash_18 (by decide) ?_
      cases h
      exact rI C hr hlk dX11_smash_20 hW hS ⟨rfl, rfl⟩
  · rw [if_pos c4] at h
    refine lv_iconst (v := -1) hx hb dX11_smash_8 (by decide) ?_
    cases h
    exact rI C hr hlk dX11_smash_9 hW hS ⟨rfl, rfl⟩
def f_X11_bell (M : MM) (x : Int32) (y : Int32) : Option (Int32 × MM) := (bnd2 (f_X11_isBell M x) fun r1 M2 => (if (r1 : Int32) = 0 then some (-1, M2) else (bnd2 (f_X11_in M2 y 0 9) fun r5 M6 => (if (r5 : Int32) = 0 then some (-1, M6) else (if (4 : Int32) ≤ (y : Int32) then (if (y : Int32) = (2 : Int32) then (if (y : Int32) = (2 : Int32) then (bnd2 (f_X11_atBell M6 x) fun r18 M19 => (bnd2 (f_X11_weight M19 r18) fun r21 M22 => some (r21, M22))) else (bnd2 (f_X11_atBell M6 x) fun r12 M13 => (bnd2 (f_X11_alloy M13 r12) fun r15 M16 => some (r15, M16)))) else (if (y : Int32) = (3 : Int32) then (if (y : Int32) = (2 : Int32) then (bnd2 (f_X11_atBell M6 x) fun r39 M40 => (bnd2 (f_X11_weight M40 r39) fun r42 M43 => some (r42, M43))) else (bnd2 (f_X11_atBell M6 x) fun r33 M34 => (bnd2 (f_X11_alloy M34 r33) fun r36 M37 => some (r36, M37)))) else (if (2 : Int32) ≤ (y : Int32) then (bnd2 (f_X11_of M6 x ((y) - (2))) fun r26 M27 => some (r26, M27)) else (bnd2 (f_X11_of M6 x y) fun r29 M30 => some (r29, M30))))) else (bnd2 (f_X11_of M6 x 6) fun r45 M46 => (if (r45 : Int32) = (3 : Int32) then some (-4, M46) else (if (y : Int32) = (2 : Int32) then (if (y : Int32) = (2 : Int32) then (bnd2 (f_X11_atBell M46 x) fun r57 M58 => (bnd2 (f_X11_weight M58 r57) fun r60 M61 => some (r60, M61))) else (bnd2 (f_X11_atBell M46 x) fun r51 M52 => (bnd2 (f_X11_alloy M52 r51) fun r54 M55 => some (r54, M55)))) else (if (y : Int32) = (3 : Int32) then (if (y : Int32) = (2 : Int32) then (bnd2 (f_X11_atBell M46 x) fun r78 M79 => (bnd2 (f_X11_weight M79 r78) fun r81 M82 => some (r81, M82))) else (bnd2 (f_X11_atBell M46 x) fun r72 M73 => (bnd2 (f_X11_alloy M73 r72) fun r75 M76 => some (r75, M76)))) else (if (2 : Int32) ≤ (y : Int32) then (bnd2 (f_X11_of M46 x ((y) - (2))) fun r65 M66 => some (r65, M66)) else (bnd2 (f_X11_of M46 x y) fun r68 M69 => some (r68, M69))))))))))))
set_option maxHeartbeats 4000000 in
set_option maxRecDepth 100000 in
theorem c_X11_bell (l : Launch) (g : GD) (M : MM) (x : Int32) (y : Int32) (r : Int32) (M2 : MM) (h : f_X11_bell M x y = some (r, M2)) : Met l yX11_bell (wm yX11_bell cX11_bell 3 (some .int)) (RM 2 43) (va_Pc [rf g (1697), .int (x), .int (y)] (WDp g M)) (QQ g (fun v w0 => v = .int r ∧ M2 = w0)) 0 0 (AA g) := by
  refine mkM (by decide +kernel) (Nat.le_of_ble_eq_true rfl) ?_
  intro p e s m below meth c C hr hlk hW hS ls hl
  have hl : lv_has ls 3 [(0, rf g (1697)), (1, .int (x)), (2, .int (y))] := hl
  have hx := C.1
  have hb := C.2.1
  have hts := C.2.2.2.2.1
  unfold f_X11_bell at h
  refine lv_aload_n hx hb dX11_bell_0 rfl (lv_at hl 0 rfl) ?_
  refine lv_iload_n hx hb dX11_bell_1 rfl (lv_at hl 1 rfl) ?_
  obtain ⟨r1, M2, h3, h⟩ := bind2 h
  refine cBack C.2.2.2.2.2.2.2.2 (runV (As := [.int (x)]) (rest := []) C hW hS (c_X11_isBell l g M x _ _ h3) kV_X11_isBell ml_X11_138 (by decide) tm_Model rfl rfl rfl hl.1 rfl (Nat.le_of_ble_eq_true rfl) ⟨Nat.le_of_ble_eq_true rfl, Nat.le_of_ble_eq_true rfl⟩ ⟨Nat.zero_le _, Nat.zero_le _⟩ dX11_bell_2) hS (fun v0 w0 H locs hp hW hS => ?_)
  obtain ⟨rfl, rfl, zr1⟩ := hp
  refine lv_if_eq (tgt := 18) hx hb dX11_bell_5 (by decide) (fun c4 => ?_) (fun c4 => ?_)
  · rw [if_pos c4] at h
    refine lv_iconst (v := -1) hx hb dX11_bell_18 (by decide) ?_
    cases h
    exact rI C hr hlk dX11_bell_19 hW hS ⟨rfl, rfl⟩
  · rw [if_neg c4] at h
    refine lv_iload_n hx hb dX11_bell_8 rfl (lv_at hl 2 rfl) ?_
    refine lv_iconst (v := 0) hx hb dX11_bell_9 (by decide) ?_
    refine lv_bipush (v := 9) hx hb dX11_bell_10 (by decide) ?_
    obtain ⟨r5, M6, h7, h⟩ := bind2 h
    refine cBack C.2.2.2.2.2.2.2.2 (runS (As := [.int (y), .int (0), .int (9)]) (rest := []) C hW hS (c_X11_in l g M2 y 0 9 _ _ h7) kS_X11_in ml_X11_68 rfl hl.1 rfl (Nat.le_of_ble_eq_true rfl) ⟨Nat.le_of_ble_eq_true rfl, Nat.le_of_ble_eq_true rfl⟩ ⟨Nat.zero_le _, Nat.zero_le _⟩ dX11_bell_12) hS (fun v0 w0 H locs hp hW hS => ?_)
    obtain ⟨rfl, rfl, zr5⟩ := hp
    refine lv_if_ne (tgt := 20) hx hb dX11_bell_15 (by decide) (fun c8 => ?_) (fun c8 => ?_)
    · rw [if_neg c8] at h
      refine lv_iload_n hx hb dX11_bell_20 rfl (lv_at hl 2 rfl) ?_
      refine lv_iconst (v := 4) hx hb dX11_bell_21 (by decide) ?_
      refine lv_icmp_ge (tgt := 39) hx hb dX11_bell_22 (by decide) (fun c9 => ?_) (fun c9 => ?_)
      · rw [if_pos c9] at h
        refine lv_iload_n hx hb dX11_bell_39 rfl (lv_at hl 2 rfl) ?_
        refine lv_iconst (v := 2) hx hb dX11_bell_40 (by decide) ?_
        refine lv_icmp_eq (tgt := 49) hx hb dX11_bell_41 (by decide) (fun c10 => ?_) (fun c10 => ?_)
        · rw [if_pos c10] at h
          refine lv_iload_n hx hb dX11_bell_49 rfl (lv_at hl 2 rfl) ?_
          refine lv_iconst (v := 2) hx hb dX11_bell_50 (by decide) ?_
          refine lv_icmp_ne (tgt := 65) hx hb dX11_bell_51 (by decide) (fun c11 => ?_) (fun c11 => ?_)
          · rw [if_neg c11] at h
            refine lv_aload_n hx hb dX11_bell_65 rfl (lv_at hl 0 rfl) ?_
            refine lv_iload_n hx hb dX11_bell_66 rfl (lv_at hl 1 rfl) ?_
            obtain ⟨r12, M13, h14, h⟩ := bind2 h
            refine cBack C.2.2.2.2.2.2.2.2 (runS (As := [.int (x)]) (rest := [rf g (1697)]) C hW hS (c_X11_atBell l g M6 x _ _ h14) kS_X11_atBell ml_X11_129 rfl hl.1 rfl (Nat.le_of_ble_eq_true rfl) ⟨Nat.le_of_ble_eq_true rfl, Nat.le_of_ble_eq_true rfl⟩ ⟨Nat.zero_le _, Nat.zero_le _⟩ dX11_bell_67) hS (fun v0 w0 H locs hp hW hS => ?_)
            obtain ⟨rfl, rfl⟩ := hp
            obtain ⟨r15, M16, h17, h⟩ := bind2 h
            refine cBack C.2.2.2.2.2.2.2.2 (runV (As := [.int (r12)]) (rest := []) C hW hS (c_X11_alloy l g M13 r12 _ _ h17) kV_X11_alloy ml_X11_98 (by decide) tm_Model rfl rfl rfl hl.1 rfl (Nat.le_of_ble_eq_true rfl) ⟨Nat.le_of_ble_eq_true rfl, Nat.le_of_ble_eq_true rfl⟩ ⟨Nat.zero_le _, Nat.zero_le _⟩ dX11_bell_70) hS (fun v0 w0 H locs hp hW hS => ?_)
            obtain ⟨rfl, rfl⟩ := hp
            cases h
            exact rI C hr hlk dX11_bell_73 hW hS ⟨rfl, rfl⟩
          · rw [if_pos c11] at h
            refine lv_aload_n hx hb dX11_bell_54 rfl (lv_at hl 0 rfl) ?_
            refine lv_iload_n hx hb dX11_bell_55 rfl (lv_at hl 1 rfl) ?_
            obtain ⟨r18, M19, h20, h⟩ := bind2 h
            refine cBack C.2.2.2.2.2.2.2.2 (runS (As := [.int (x)]) (rest := [rf g (1697)]) C hW hS (c_X11_atBell l g M6 x _ _ h20) kS_X11_atBell ml_X11_129 rfl hl.1 rfl (Nat.le_of_ble_eq_true rfl) ⟨Nat.le_of_ble_eq_true rfl, Nat.le_of_ble_eq_true rfl⟩ ⟨Nat.zero_le _, Nat.zero_le _⟩ dX11_bell_56) hS (fun v0 w0 H locs hp hW hS => ?_)
            obtain ⟨rfl, rfl⟩ := hp
            obtain ⟨r21, M22, h23, h⟩ := bind2 h
            refine cBack C.2.2.2.2.2.2.2.2 (runV (As := [.int (r18)]) (rest := []) C hW hS (c_X11_weight l g M19 r18 _ _ h23) kV_X11_weight ml_X11_88 (by decide) tm_Model rfl rfl rfl hl.1 rfl (Nat.le_of_ble_eq_true rfl) ⟨Nat.le_of_ble_eq_true rfl, Nat.le_of_ble_eq_true rfl⟩ ⟨Nat.zero_le _, Nat.zero_le _⟩ dX11_bell_59) hS (fun v0 w0 H locs hp hW hS => ?_)
            obtain ⟨rfl, rfl⟩ := hp
            refine lv_goto (tgt := 73) hx hb dX11_bell_62 (by decide) ?_
            cases h
            exact rI C hr hlk dX11_bell_73 hW hS ⟨rfl, rfl⟩
        · rw [if_neg c10] at h
          refine lv_iload_n hx hb dX11_bell_44 rfl (lv_at hl 2 rfl) ?_
          refine lv_iconst (v := 3) hx hb dX11_bell_45 (by decide) ?_
          refine lv_icmp_ne (tgt := 74) hx hb dX11_bell_46 (by decide) (fun c24 => ?_) (fun c24 => ?_)
          · rw [if_neg c24] at h
            refine lv_aload_n hx hb dX11_bell_74 rfl (lv_at hl 0 rfl) ?_
            refine lv_iload_n hx hb dX11_bell_75 rfl (lv_at hl 1 rfl) ?_
            refine lv_iload_n hx hb dX11_bell_76 rfl (lv_at hl 2 rfl) ?_
            refine lv_iconst (v := 2) hx hb dX11_bell_77 (by decide) ?_
            refine lv_icmp_ge (tgt := 85) hx hb dX11_bell_78 (by decide) (fun c25 => ?_) (fun c25 => ?_)
            · rw [if_pos c25] at h
              refine lv_iload_n hx hb dX11_bell_85 rfl (lv_at hl 2 rfl) ?_
              refine lv_iconst (v := 2) hx hb dX11_bell_86 (by decide) ?_
              refine lv_isub hx hb dX11_bell_87 ?_
              obtain ⟨r26, M27, h28, h⟩ := bind2 h
              refine cBack C.2.2.2.2.2.2.2.2 (runV (As := [.int (x), .int ((y) - (2))]) (rest := []) C hW hS (c_X11_of l g M6 x ((y) - (2)) _ _ h28) kV_X11_of ml_X11_104 (by decide) tm_Model rfl rfl rfl hl.1 rfl (Nat.le_of_ble_eq_true rfl) ⟨Nat.le_of_ble_eq_true rfl, Nat.le_of_ble_eq_true rfl⟩ ⟨Nat.zero_le _, Nat.zero_le _⟩ dX11_bell_88) hS (fun v0 w0 H locs hp hW hS => ?_)
              obtain ⟨rfl, rfl⟩ := hp
              cases h
              exact rI C hr hlk dX11_bell_91 hW hS ⟨rfl, rfl⟩
            · rw [if_neg c25] at h
              refine lv_iload_n hx hb dX11_bell_81 rfl (lv_at hl 2 rfl) ?_
              refine lv_goto (tgt := 88) hx hb dX11_bell_82 (by decide) ?_
              obtain ⟨r29, M30, h31, h⟩ := bind2 h
              refine cBack C.2.2.2.2.2.2.2.2 (runV (As := [.int (x), .int (y)]) (rest := []) C hW hS (c_X11_of l g M6 x y _ _ h31) kV_X11_of ml_X11_104 (by decide) tm_Model rfl rfl rfl hl.1 rfl (Nat.le_of_ble_eq_true rfl) ⟨Nat.le_of_ble_eq_true rfl, Nat.le_of_ble_eq_true rfl⟩ ⟨Nat.zero_le _, Nat.zero_le _⟩ dX11_bell_88) hS (fun v0 w0 H locs hp hW hS => ?_)
              obtain ⟨rfl, rfl⟩ := hp
              cases h
              exact rI C hr hlk dX11_bell_91 hW hS ⟨rfl, rfl⟩
          · rw [if_pos c24] at h
            refine lv_iload_n hx hb dX11_bell_49 rfl (lv_at hl 2 rfl) ?_
            refine lv_iconst (v := 2) hx hb dX11_bell_50 (by decide) ?_
            refine lv_icmp_ne (tgt := 65) hx hb dX11_bell_51 (by decide) (fun c32 => ?_) (fun c32 => ?_)
            · rw [if_neg c32] at h
              refine lv_aload_n hx hb dX11_bell_65 rfl (lv_at hl 0 rfl) ?_
              refine lv_iload_n hx hb dX11_bell_66 rfl (lv_at hl 1 rfl) ?_
              obtain ⟨r33, M34, h35, h⟩ := bind2 h
              refine cBack C.2.2.2.2.2.2.2.2 (runS (As := [.int (x)]) (rest := [rf g (1697)]) C hW hS (c_X11_atBell l g M6 x _ _ h35) kS_X11_atBell ml_X11_129 rfl hl.1 rfl (Nat.le_of_ble_eq_true rfl) ⟨Nat.le_of_ble_eq_true rfl, Nat.le_of_ble_eq_true rfl⟩ ⟨Nat.zero_le _, Nat.zero_le _⟩ dX11_bell_67) hS (fun v0 w0 H locs hp hW hS => ?_)
              obtain ⟨rfl, rfl⟩ := hp
              obtain ⟨r36, M37, h38, h⟩ := bind2 h
              refine cBack C.2.2.2.2.2.2.2.2 (runV (As := [.int (r33)]) (rest := []) C hW hS (c_X11_alloy l g M34 r33 _ _ h38) kV_X11_alloy ml_X11_98 (by decide) tm_Model rfl rfl rfl hl.1 rfl (Nat.le_of_ble_eq_true rfl) ⟨Nat.le_of_ble_eq_true rfl, Nat.le_of_ble_eq_true rfl⟩ ⟨Nat.zero_le _, Nat.zero_le _⟩ dX11_bell_70) hS (fun v0 w0 H locs hp hW hS => ?_)
              obtain ⟨rfl, rfl⟩ := hp
              cases h
              exact rI C hr hlk dX11_bell_73 hW hS ⟨rfl, rfl⟩
            · rw [if_pos c32] at h
              refine lv_aload_n hx hb dX11_bell_54 rfl (lv_at hl 0 rfl) ?_
              refine lv_iload_n hx hb dX11_bell_55 rfl (lv_at hl 1 rfl) ?_
              obtain ⟨r39, M40, h41, h⟩ := bind2 h
              refine cBack C.2.2.2.2.2.2.2.2 (runS (As := [.int (x)]) (rest := [rf g (1697)]) C hW hS (c_X11_atBell l g M6 x _ _ h41) kS_X11_atBell ml_X11_129 rfl hl.1 rfl (Nat.le_of_ble_eq_true rfl) ⟨Nat.le_of_ble_eq_true rfl, Nat.le_of_ble_eq_true rfl⟩ ⟨Nat.zero_le _, Nat.zero_le _⟩ dX11_bell_56) hS (fun v0 w0 H locs hp hW hS => ?_)
              obtain ⟨rfl, rfl⟩ := hp
              obtain ⟨r42, M43, h44, h⟩ := bind2 h
              refine cBack C.2.2.2.2.2.2.2.2 (runV (As := [.int (r39)]) (rest := []) C hW hS (c_X11_weight l g M40 r39 _ _ h44) kV_X11_weight ml_X11_88 (by decide) tm_Model rfl rfl rfl hl.1 rfl (Nat.le_of_ble_eq_true rfl) ⟨Nat.le_of_ble_eq_true rfl, Nat.le_of_ble_eq_true rfl⟩ ⟨Nat.zero_le _, Nat.zero_le _⟩ dX11_bell_59) hS (fun v0 w0 H locs hp hW hS => ?_)
              obtain ⟨rfl, rfl⟩ := hp
              refine lv_goto (tgt := 73) hx hb dX11_bell_62 (by decide) ?_
              cases h
              exact rI C hr hlk dX11_bell_73 hW hS ⟨rfl, rfl⟩
      · rw [if_neg c9] at h
        refine lv_aload_n hx hb dX11_bell_25 rfl (lv_at hl 0 rfl) ?_
        refine lv_iload_n hx hb dX11_bell_26 rfl (lv_at hl 1 rfl) ?_
        refine lv_bipush (v := 6) hx hb dX11_bell_27 (by decide) ?_
        obtain ⟨r45, M46, h47, h⟩ := bind2 h
        refine cBack C.2.2.2.2.2.2.2.2 (runV (As := [.int (x), .int (6)]) (rest := []) C hW hS (c_X11_of l g M6 x 6 _ _ h47) kV_X11_of ml_X11_104 (by decide) tm_Model rfl rfl rfl hl.1 rfl (Nat.le_of_ble_eq_true rfl) ⟨Nat.le_of_ble_eq_true rfl, Nat.le_of_ble_eq_true rfl⟩ ⟨Nat.zero_le _, Nat.zero_le _⟩ dX11_bell_29) hS (fun v0 w0 H locs hp hW hS => ?_)
        obtain ⟨rfl, rfl⟩ := hp
        refine lv_iconst (v := 3) hx hb dX11_bell_32 (by decide) ?_
        refine lv_icmp_ne (tgt := 39) hx hb dX11_bell_33 (by decide) (fun c48 => ?_) (fun c48 => ?_)
        · rw [if_neg c48] at h
          refine lv_iload_n hx hb dX11_bell_39 rfl (lv_at hl 2 rfl) ?_
          refine lv_iconst (v := 2) hx hb dX11_bell_40 (by decide) ?_
          refine lv_icmp_eq (tgt := 49) hx hb dX11_bell_41 (by decide) (fun c49 => ?_) (fun c49 => ?_)
          · rw [if_pos c49] at h
            refine lv_iload_n hx hb dX11_bell_49 rfl (lv_at hl 2 rfl) ?_
            refine lv_iconst (v := 2) hx hb dX11_bell_50 (by decide) ?_
            refine lv_icmp_ne (tgt := 65) hx hb dX11_bell_51 (by decide) (fun c50 => ?_) (fun c50 => ?_)
            · rw [if_neg c50] at h
              refine lv_aload_n hx hb dX11_bell_65 rfl (lv_at hl 0 rfl) ?_
              refine lv_iload_n hx hb dX11_bell_66 rfl (lv_at hl 1 rfl) ?_
              obtain ⟨r51, M52, h53, h⟩ := bind2 h
              refine cBack C.2.2.2.2.2.2.2.2 (runS (As := [.int (x)]) (rest := [rf g (1697)]) C hW hS (c_X11_atBell l g M46 x _ _ h53) kS_X11_atBell ml_X11_129 rfl hl.1 rfl (Nat.le_of_ble_eq_true rfl) ⟨Nat.le_of_ble_eq_true rfl, Nat.le_of_ble_eq_true rfl⟩ ⟨Nat.zero_le _, Nat.zero_le _⟩ dX11_bell_67) hS (fun v0 w0 H locs hp hW hS => ?_)
              obtain ⟨rfl, rfl⟩ := hp
              obtain ⟨r54, M55, h56, h⟩ := bind2 h
              refine cBack C.2.2.2.2.2.2.2.2 (runV (As := [.int (r51)]) (rest := []) C hW hS (c_X11_alloy l g M52 r51 _ _ h56) kV_X11_alloy ml_X11_98 (by decide) tm_Model rfl rfl rfl hl.1 rfl (Nat.le_of_ble_eq_true rfl) ⟨Nat.le_of_ble_eq_true rfl, Nat.le_of_ble_eq_true rfl⟩ ⟨Nat.zero_le _, Nat.zero_le _⟩ dX11_bell_70) hS (fun v0 w0 H locs hp hW hS => ?_)
              obtain ⟨rfl, rfl⟩ := hp
              cases h
              exact rI C hr hlk dX11_bell_73 hW hS ⟨rfl, rfl⟩
            · rw [if_pos c50] at h
              refine lv_aload_n hx hb dX11_bell_54 rfl (lv_at hl 0 rfl) ?_
              refine lv_iload_n hx hb dX11_bell_55 rfl (lv_at hl 1 rfl) ?_
              obtain ⟨r57, M58, h59, h⟩ := bind2 h
              refine cBack C.2.2.2.2.2.2.2.2 (runS (As := [.int (x)]) (rest := [rf g (1697)]) C hW hS (c_X11_atBell l g M46 x _ _ h59) kS_X11_atBell ml_X11_129 rfl hl.1 rfl (Nat.le_of_ble_eq_true rfl) ⟨Nat.le_of_ble_eq_true rfl, Nat.le_of_ble_eq_true rfl⟩ ⟨Nat.zero_le _, Nat.zero_le _⟩ dX11_bell_56) hS (fun v0 w0 H locs hp hW hS => ?_)
              obtain ⟨rfl, rfl⟩ := hp
              obtain ⟨r60, M61, h62, h⟩ := bind2 h
              refine cBack C.2.2.2.2.2.2.2.2 (runV (As := [.int (r57)]) (rest := []) C hW hS (c_X11_weight l g M58 r57 _ _ h62) kV_X11_weight ml_X11_88 (by decide) tm_Model rfl rfl rfl hl.1 rfl (Nat.le_of_ble_eq_true rfl) ⟨Nat.le_of_ble_eq_true rfl, Nat.le_of_ble_eq_true rfl⟩ ⟨Nat.zero_le _, Nat.zero_le _⟩ dX11_bell_59) hS (fun v0 w0 H locs hp hW hS => ?_)
              obtain ⟨rfl, rfl⟩ := hp
              refine lv_goto (tgt := 73) hx hb dX11_bell_62 (by decide) ?_
              cases h
              exact rI C hr hlk dX11_bell_73 hW hS ⟨rfl, rfl⟩
          · rw [if_neg c49] at h
            refine lv_iload_n hx hb dX11_bell_44 rfl (lv_at hl 2 rfl) ?_
            refine lv_iconst (v := 3) hx hb dX11_bell_45 (by decide) ?_
            refine lv_icmp_ne (tgt := 74) hx hb dX11_bell_46 (by decide) (fun c63 => ?_) (fun c63 => ?_)
            · rw [if_neg c63] at h
              refine lv_aload_n hx hb dX11_bell_74 rfl (lv_at hl 0 rfl) ?_
              refine lv_iload_n hx hb dX11_bell_75 rfl (lv_at hl 1 rfl) ?_
              refine lv_iload_n hx hb dX11_bell_76 rfl (lv_at hl 2 rfl) ?_
              refine lv_iconst (v := 2) hx hb dX11_bell_77 (by decide) ?_
              refine lv_icmp_ge (tgt := 85) hx hb dX11_bell_78 (by decide) (fun c64 => ?_) (fun c64 => ?_)
              · rw [if_pos c64] at h
                refine lv_iload_n hx hb dX11_bell_85 rfl (lv_at hl 2 rfl) ?_
                refine lv_iconst (v := 2) hx hb dX11_bell_86 (by decide) ?_
                refine lv_isub hx hb dX11_bell_87 ?_
                obtain ⟨r65, M66, h67, h⟩ := bind2 h
                refine cBack C.2.2.2.2.2.2.2.2 (runV (As := [.int (x), .int ((y) - (2))]) (rest := []) C hW hS (c_X11_of l g M46 x ((y) - (2)) _ _ h67) kV_X11_of ml_X11_104 (by decide) tm_Model rfl rfl rfl hl.1 rfl (Nat.le_of_ble_eq_true rfl) ⟨Nat.le_of_ble_eq_true rfl, Nat.le_of_ble_eq_true rfl⟩ ⟨Nat.zero_le _, Nat.zero_le _⟩ dX11_bell_88) hS (fun v0 w0 H locs hp hW hS => ?_)
                obtain ⟨rfl, rfl⟩ := hp
                cases h
                exact rI C hr hlk dX11_bell_91 hW hS ⟨rfl, rfl⟩
              · rw [if_neg c64] at h
                refine lv_iload_n hx hb dX11_bell_81 rfl (lv_at hl 2 rfl) ?_
                refine lv_goto (tgt := 88) hx hb dX11_bell_82 (by decide) ?_
                obtain ⟨r68, M69, h70, h⟩ := bind2 h
                refine cBack C.2.2.2.2.2.2.2.2 (runV (As := [.int (x), .int (y)]) (rest := []) C hW hS (c_X11_of l g M46 x y _ _ h70) kV_X11_of ml_X11_104 (by decide) tm_Model rfl rfl rfl hl.1 rfl (Nat.le_of_ble_eq_true rfl) ⟨Nat.le_of_ble_eq_true rfl, Nat.le_of_ble_eq_true rfl⟩ ⟨Nat.zero_le _, Nat.zero_le _⟩ dX11_bell_88) hS (fun v0 w0 H locs hp hW hS => ?_)
                obtain ⟨rfl, rfl⟩ := hp
                cases h
                exact rI C hr hlk dX11_bell_91 hW hS ⟨rfl, rfl⟩
            · rw [if_pos c63] at h
              refine lv_iload_n hx hb dX11_bell_49 rfl (lv_at hl 2 rfl) ?_
              refine lv_iconst (v := 2) hx hb dX11_bell_50 (by decide) ?_
              refine lv_icmp_ne (tgt := 65) hx hb dX11_bell_51 (by decide) (fun c71 => ?_) (fun c71 => ?_)
              · rw [if_neg c71] at h
                refine lv_aload_n hx hb dX11_bell_65 rfl (lv_at hl 0 rfl) ?_
                refine lv_iload_n hx hb dX11_bell_66 rfl (lv_at hl 1 rfl) ?_
                obtain ⟨r72, M73, h74, h⟩ := bind2 h
                refine cBack C.2.2.2.2.2.2.2.2 (runS (As := [.int (x)]) (rest := [rf g (1697)]) C hW hS (c_X11_atBell l g M46 x _ _ h74) kS_X11_atBell ml_X11_129 rfl hl.1 rfl (Nat.le_of_ble_eq_true rfl) ⟨Nat.le_of_ble_eq_true rfl, Nat.le_of_ble_eq_true rfl⟩ ⟨Nat.zero_le _, Nat.zero_le _⟩ dX11_bell_67) hS (fun v0 w0 H locs hp hW hS => ?_)
                obtain ⟨rfl, rfl⟩ := hp
                obtain ⟨r75, M76, h77, h⟩ := bind2 h
                refine cBack C.2.2.2.2.2.2.2.2 (runV (As := [.int (r72)]) (rest := []) C hW hS (c_X11_alloy l g M73 r72 _ _ h77) kV_X11_alloy ml_X11_98 (by decide) tm_Model rfl rfl rfl hl.1 rfl (Nat.le_of_ble_eq_true rfl) ⟨Nat.le_of_ble_eq_true rfl, Nat.le_of_ble_eq_true rfl⟩ ⟨Nat.zero_le _, Nat.zero_le _⟩ dX11_bell_70) hS (fun v0 w0 H locs hp hW hS => ?_)
                obtain ⟨rfl, rfl⟩ := hp
                cases h
                exact rI C hr hlk dX11_bell_73 hW hS ⟨rfl, rfl⟩
              · rw [if_pos c71] at h
                refine lv_aload_n hx hb dX11_bell_54 rfl (lv_at hl 0 rfl) ?_
                refine lv_iload_n hx hb dX11_bell_55 rfl (lv_at hl 1 rfl) ?_
                obtain ⟨r78, M79, h80, h⟩ := bind2 h
                refine cBack C.2.2.2.2.2.2.2.2 (runS (As := [.int (x)]) (rest := [rf g (1697)]) C hW hS (c_X11_atBell l g M46 x _ _ h80) kS_X11_atBell ml_X11_129 rfl hl.1 rfl (Nat.le_of_ble_eq_true rfl) ⟨Nat.le_of_ble_eq_true rfl, Nat.le_of_ble_eq_true rfl⟩ ⟨Nat.zero_le _, Nat.zero_le _⟩ dX11_bell_56) hS (fun v0 w0 H locs hp hW hS => ?_)
                obtain ⟨rfl, rfl⟩ := hp
                obtain ⟨r81, M82, h83, h⟩ := bind2 h
                refine cBack C.2.2.2.2.2.2.2.2 (runV (As := [.int (r78)]) (rest := []) C hW hS (c_X11_weight l g M79 r78 _ _ h83) kV_X11_weight ml_X11_88 (by decide) tm_Model rfl rfl rfl hl.1 rfl (Nat.le_of_ble_eq_true rfl) ⟨Nat.le_of_ble_eq_true rfl, Nat.le_of_ble_eq_true rfl⟩ ⟨Nat.zero_le _, Nat.zero_le _⟩ dX11_bell_59) hS (fun v0 w0 H locs hp hW hS => ?_)
                obtain ⟨rfl, rfl⟩ := hp
                refine lv_goto (tgt := 73) hx hb dX11_bell_62 (by decide) ?_
                cases h
                exact rI C hr hlk dX11_bell_73 hW hS ⟨rfl, rfl⟩
        · rw [if_pos c48] at h
          refine lv_bipush (v := -4) hx hb dX11_bell_36 (by decide) ?_
          cases h
          exact rI C hr hlk dX11_bell_38 hW hS ⟨rfl, rfl⟩
    · rw [if_pos c8] at h
      refine lv_iconst (v := -1) hx hb dX11_bell_18 (by decide) ?_
      cases h
      exact rI C hr hlk dX11_bell_19 hW hS ⟨rfl, rfl⟩
def f_X11_isOrder (M : MM) (x : Int32) : Option (Int32 × MM) := (if vin (53) 1254 then (bnd2 (f_X11_in M x 0 ((M 21 (53 : Int32).toNatClampNeg) - (1))) fun r2 M3 => some (r2, M3)) else none)
set_option maxHeartbeats 4000000 in
set_option maxRecDepth 100000 in
theorem c_X11_isOrder (l : Launch) (g : GD) (M : MM) (x : Int32) (r : Int32) (M2 : MM) (h : f_X11_isOrder M x = some (r, M2)) : Met l yX11_isOrder (wm yX11_isOrder cX11_isOrder 2 (some .boolean)) (RM 1 22) (va_Pc [rf g (1697), .int (x)] (WDp g M)) (QQ g (fun v w0 => v = .int r ∧ M2 = w0 ∧ (r = 0 ∨ r = 1))) 0 0 (AA g) := by
  refine mkM (by decide +kernel) (Nat.le_of_ble_eq_true rfl) ?_
  intro p e s m below meth c C hr hlk hW hS ls hl
  have hl : lv_has ls 2 [(0, rf g (1697)), (1, .int (x))] := hl
  have hx := C.1
  have hb := C.2.1
  have hts := C.2.2.2.2.1
  unfold f_X11_isOrder at h
  refine lv_iload_n hx hb dX11_isOrder_0 rfl (lv_at hl 1 rfl) ?_
  refine lv_iconst (v := 0) hx hb dX11_isOrder_1 (by decide) ?_
  refine lv_aload_n hx hb dX11_isOrder_2 rfl (lv_at hl 0 rfl) ?_
  refine rGet (k := 0) C hW (by decide) tm_Model rfl inX11 (by decide) fl_X11_7 rfl dX11_isOrder_3 ?_
  refine lv_bipush (v := 53) hx hb dX11_isOrder_6 (by decide) ?_
  have s1 : vin (53) 1254 := Classical.byContradiction fun q9 => by rw [if_neg q9] at h; cases h
  rw [if_pos s1] at h
  refine rIld C hW (by decide) tm_s s1 dX11_isOrder_8 ?_
  refine lv_iconst (v := 1) hx hb dX11_isOrder_9 (by decide) ?_
  refine lv_isub hx hb dX11_isOrder_10 ?_
  obtain ⟨r2, M3, h4, h⟩ := bind2 h
  refine cBack C.2.2.2.2.2.2.2.2 (runS (As := [.int (x), .int (0), .int ((M 21 (53 : Int32).toNatClampNeg) - (1))]) (rest := []) C hW hS (c_X11_in l g M x 0 ((M 21 (53 : Int32).toNatClampNeg) - (1)) _ _ h4) kS_X11_in ml_X11_68 rfl hl.1 rfl (Nat.le_of_ble_eq_true rfl) ⟨Nat.le_of_ble_eq_true rfl, Nat.le_of_ble_eq_true rfl⟩ ⟨Nat.zero_le _, Nat.zero_le _⟩ dX11_isOrder_11) hS (fun v0 w0 H locs hp hW hS => ?_)
  obtain ⟨rfl, rfl, zr2⟩ := hp
  cases h
  exact rZ C hr hlk dX11_isOrder_14 hW hS (nar01 zr2) ⟨rfl, rfl, zr2⟩
def f_X11_ofOrder (M : MM) (x : Int32) (y : Int32) : Option (Int32 × MM) := (if vin (((854) + ((4) * (x))) + (y)) 1254 then some (M 21 (((854) + ((4) * (x))) + (y) : Int32).toNatClampNeg, M) else none)
set_option maxHeartbeats 4000000 in
set_option maxRecDepth 100000 in
theorem c_X11_ofOrder (l : Launch) (g : GD) (M : MM) (x : Int32) (y : Int32) (r : Int32) (M2 : MM) (h : f_X11_ofOrder M x y = some (r, M2)) : Met l yX11_ofOrder (wm yX11_ofOrder cX11_ofOrder 3 (some .int)) (RM 0 0) (va_Pc [rf g (1697), .int (x), .int (y)] (WDp g M)) (QQ g (fun v w0 => v = .int r ∧ M2 = w0)) 0 0 (AA g) := by
  refine mkM (by decide +kernel) (Nat.le_of_ble_eq_true rfl) ?_
  intro p e s m below meth c C hr hlk hW hS ls hl
  have hl : lv_has ls 3 [(0, rf g (1697)), (1, .int (x)), (2, .int (y))] := hl
  have hx := C.1
  have hb := C.2.1
  have hts := C.2.2.2.2.1
  unfold f_X11_ofOrder at h
  refine lv_aload_n hx hb dX11_ofOrder_0 rfl (lv_at hl 0 rfl) ?_
  refine rGet (k := 0) C hW (by decide) tm_Model rfl inX11 (by decide) fl_X11_7 rfl dX11_ofOrder_1 ?_
  refine lv_sipush (v := 854) hx hb dX11_ofOrder_4 (by decide) ?_
  refine lv_iconst (v := 4) hx hb dX11_ofOrder_7 (by decide) ?_
  refine lv_iload_n hx hb dX11_ofOrder_8 rfl (lv_at hl 1 rfl) ?_
  refine lv_imul hx hb dX11_ofOrder_9 ?_
  refine lv_iadd hx hb dX11_ofOrder_10 ?_
  refine lv_iload_n hx hb dX11_ofOrder_11 rfl (lv_at hl 2 rfl) ?_
  refine lv_iadd hx hb dX11_ofOrder_12 ?_
  have s1 : vin (((854) + ((4) * (x))) + (y)) 1254 := Classical.byContradiction fun q9 => by rw [if_neg q9] at h; cases h
  rw [if_pos s1] at h
  refine rIld C hW (by decide) tm_s s1 dX11_ofOrder_13 ?_
  cases h
  exact rI C hr hlk dX11_ofOrder_14 hW hS ⟨rfl, rfl⟩
def lp_X11_ordersThatAre_4 (fu : Nat) (M : MM)  (x : Int32) (u : Int32) (z : Int32) : Option (Int32 × MM) := match fu with
  | 0 => none
  | n + 1 => (if vin (53) 1254 then (if (M 21 (53 : Int32).toNatClampNeg : Int32) ≤ (z : Int32) then some (u, M) else (bnd2 (f_X11_ofOrder M z 3) fun r1003 M1004 => (if (r1003 : Int32) = (x : Int32) then (lp_X11_ordersThatAre_4 n M1004   x ((u) + (1)) (z + 1)) else (lp_X11_ordersThatAre_4 n M1004   x ((u) + (0)) (z + 1))))) else none)
def f_X11_ordersThatAre (M : MM) (x : Int32) : Option (Int32 × MM) := (lp_X11_ordersThatAre_4 FU M   x 0 0)
set_option maxHeartbeats 4000000 in
set_option maxRecDepth 100000 in
theorem t_X11_ordersThatAre_4 (l : Launch) (g : GD) {p : Program} {e : Env} {s : State} {m : MethodId} {av : Array Value} {below : List Frame} {meth : Method} {c : Code}  (n : Nat) : ∀ (M : MM) (x : Int32) (u : Int32) (z : Int32) (r : Int32) (M2 : MM), lp_X11_ordersThatAre_4 n M   x u z = some (r, M2) → CX p s m av c cX11_ordersThatAre 4 RX11 g → meth.sig.returnType = (some .int) → meth.locks = false → ∀ (H : Heap) (locs : List Loc), Wd g M H → sS g s H locs → ∀ ls : Array Slot, lv_has ls 4 [(0, rf g (1697)), (1, .int (x)), (2, .int (u)), (3, .int (z))] → W p l e (RM 1 22) s m av below meth c H locs 0 0 (MQ below (QQ g (fun v w0 => v = .int r ∧ M2 = w0)) av s 0 0 (AA g)) (F0 m 4 ls []) := by
  induction n with
  | zero => intro M x u z r M2 h; cases h
  | succ n ih0 =>
    intro M x u z r M2 h C hr hlk H locs hW hS ls hl
    have ih : ∀ (M : MM) (x : Int32) (u : Int32) (z : Int32), lp_X11_ordersThatAre_4 n M   x u z = some (r, M2) → ∀ (H : Heap) (locs : List Loc), Wd g M H → sS g s H locs → ∀ ls : Array Slot, lv_has ls 4 [(0, rf g (1697)), (1, .int (x)), (2, .int (u)), (3, .int (z))] → W p l e (RM 1 22) s m av below meth c H locs 0 0 (MQ below (QQ g (fun v w0 => v = .int r ∧ M2 = w0)) av s 0 0 (AA g)) (F0 m 4 ls []) := fun M x u z h H locs hW hS ls hl => ih0 M x u z r M2 h C hr hlk H locs hW hS ls hl
    unfold lp_X11_ordersThatAre_4 at h
    try dsimp only at h
    have hx := C.1
    have hb := C.2.1
    have hts := C.2.2.2.2.1
    refine lv_iload_n hx hb dX11_ordersThatAre_4 rfl (lv_at hl 3 rfl) ?_
    refine lv_aload_n hx hb dX11_ordersThatAre_5 rfl (lv_at hl 0 rfl) ?_
    refine rGet (k := 0) C hW (by decide) tm_Model rfl inX11 (by decide) fl_X11_7 rfl dX11_ordersThatAre_6 ?_
    refine lv_bipush (v := 53) hx hb dX11_ordersThatAre_9 (by decide) ?_
    have s1001 : vin (53) 1254 := Classical.byContradiction fun q9 => by rw [if_neg q9] at h; cases h
    rw [if_pos s1001] at h
    refine rIld C hW (by decide) tm_s s1001 dX11_ordersThatAre_11 ?_
    refine lv_icmp_ge (tgt := 39) hx hb dX11_ordersThatAre_12 (by decide) (fun c1002 => ?_) (fun c1002 => ?_)
    · rw [if_pos c1002] at h
      refine lv_iload_n hx hb dX11_ordersThatAre_39 rfl (lv_at hl 2 rfl) ?_
      cases h
      exact rI C hr hlk dX11_ordersThatAre_40 hW hS ⟨rfl, rfl⟩
    · rw [if_neg c1002] at h
      refine lv_iload_n hx hb dX11_ordersThatAre_15 rfl (lv_at hl 2 rfl) ?_
      refine lv_aload_n hx hb dX11_ordersThatAre_16 rfl (lv_at hl 0 rfl) ?_
      refine lv_iload_n hx hb dX11_ordersThatAre_17 rfl (lv_at hl 3 rfl) ?_
      refine lv_iconst (v := 3) hx hb dX11_ordersThatAre_18 (by decide) ?_
      obtain ⟨r1003, M1004, h1005, h⟩ := bind2 h
      refine cBack C.2.2.2.2.2.2.2.2 (runV (As := [.int (z), .int (3)]) (rest := [.int (u)]) C hW hS (c_X11_ofOrder l g M z 3 _ _ h1005) kV_X11_ofOrder ml_X11_148 (by decide) tm_Model rfl rfl rfl hl.1 rfl (Nat.le_of_ble_eq_true rfl) ⟨Nat.le_of_ble_eq_true rfl, Nat.le_of_ble_eq_true rfl⟩ ⟨Nat.zero_le _, Nat.zero_le _⟩ dX11_ordersThatAre_19) hS (fun v0 w0 H locs hp hW hS => ?_)
      obtain ⟨rfl, rfl⟩ := hp
      refine lv_iload_n hx hb dX11_ordersThatAre_22 rfl (lv_at hl 1 rfl) ?_
      refine lv_icmp_ne (tgt := 30) hx hb dX11_ordersThatAre_23 (by decide) (fun c1006 => ?_) (fun c1006 => ?_)
      · rw [if_neg c1006] at h
        refine lv_iconst (v := 0) hx hb dX11_ordersThatAre_30 (by decide) ?_
        refine lv_iadd hx hb dX11_ordersThatAre_31 ?_
        refine lv_istore_n (lv' := [(2, .int ((u) + (0))), (0, rf g (1697)), (1, .int (x)), (3, .int (z))]) hx hb dX11_ordersThatAre_32 rfl hl (by decide) rfl (fun ls hl => ?_)
        refine lv_iinc (v := z + 1) (lv' := [(3, .int (z + 1)), (2, .int ((u) + (0))), (0, rf g (1697)), (1, .int (x))]) hx hb dX11_ordersThatAre_33 hl (k := 3) rfl rfl (by decide) rfl (fun ls hl => ?_)
        refine lv_goto (tgt := 4) hx hb dX11_ordersThatAre_36 (by decide) ?_
        exact ih M1004 x ((u) + (0)) (z + 1) h _ _ hW hS ls (lv_sub hl [2, 3, 1, 0] rfl)
      · rw [if_pos c1006] at h
        refine lv_iconst (v := 1) hx hb dX11_ordersThatAre_26 (by decide) ?_
        refine lv_goto (tgt := 31) hx hb dX11_ordersThatAre_27 (by decide) ?_
        refine lv_iadd hx hb dX11_ordersThatAre_31 ?_
        refine lv_istore_n (lv' := [(2, .int ((u) + (1))), (0, rf g (1697)), (1, .int (x)), (3, .int (z))]) hx hb dX11_ordersThatAre_32 rfl hl (by decide) rfl (fun ls hl => ?_)
        refine lv_iinc (v := z + 1) (lv' := [(3, .int (z + 1)), (2, .int ((u) + (1))), (0, rf g (1697)), (1, .int (x))]) hx hb dX11_ordersThatAre_33 hl (k := 3) rfl rfl (by decide) rfl (fun ls hl => ?_)
        refine lv_goto (tgt := 4) hx hb dX11_ordersThatAre_36 (by decide) ?_
        exact ih M1004 x ((u) + (1)) (z + 1) h _ _ hW hS ls (lv_sub hl [2, 3, 1, 0] rfl)
set_option maxHeartbeats 4000000 in
set_option maxRecDepth 100000 in
theorem c_X11_ordersThatAre (l : Launch) (g : GD) (M : MM) (x : Int32) (r : Int32) (M2 : MM) (h : f_X11_ordersThatAre M x = some (r, M2)) : Met l yX11_ordersThatAre (wm yX11_ordersThatAre cX11_ordersThatAre 4 (some .int)) (RM 1 22) (va_Pc [rf g (1697), .int (x)] (WDp g M)) (QQ g (fun v w0 => v = .int r ∧ M2 = w0)) 0 0 (AA g) := by
  refine mkM (by decide +kernel) (Nat.le_of_ble_eq_true rfl) ?_
  intro p e s m below meth c C hr hlk hW hS ls hl
  have hl : lv_has ls 4 [(0, rf g (1697)), (1, .int (x))] := hl
  have hx := C.1
  have hb := C.2.1
  have hts := C.2.2.2.2.1
  unfold f_X11_ordersThatAre at h
  refine lv_iconst (v := 0) hx hb dX11_ordersThatAre_0 (by decide) ?_
  refine lv_istore_n (lv' := [(2, .int (0)), (0, rf g (1697)), (1, .int (x))]) hx hb dX11_ordersThatAre_1 rfl hl (by decide) rfl (fun ls hl => ?_)
  refine lv_iconst (v := 0) hx hb dX11_ordersThatAre_2 (by decide) ?_
  refine lv_istore_n (lv' := [(3, .int (0)), (2, .int (0)), (0, rf g (1697)), (1, .int (x))]) hx hb dX11_ordersThatAre_3 rfl hl (by decide) rfl (fun ls hl => ?_)
  exact t_X11_ordersThatAre_4 l g    FU M x 0 0 _ _ h C hr hlk _ _ hW hS ls (lv_sub hl [2, 3, 1, 0] rfl)
def lp_X11_bellsThatAre_4 (fu : Nat) (M : MM)  (x : Int32) (u : Int32) (z : Int32) : Option (Int32 × MM) := match fu with
  | 0 => none
  | n + 1 => (if vin (52) 1254 then (if (M 21 (52 : Int32).toNatClampNeg : Int32) ≤ (z : Int32) then some (u, M) else (bnd2 (f_X11_of M z 6) fun r1003 M1004 => (if (r1003 : Int32) = (x : Int32) then (lp_X11_bellsThatAre_4 n M1004   x ((u) + (1)) (z + 1)) else (lp_X11_bellsThatAre_4 n M1004   x ((u) + (0)) (z + 1))))) else none)
def f_X11_bellsThatAre (M : MM) (x : Int32) : Option (Int32 × MM) := (lp_X11_bellsThatAre_4 FU M   x 0 0)
set_option maxHeartbeats 4000000 in
set_option maxRecDepth 100000 in
theorem t_X11_bellsThatAre_4 (l : Launch) (g : GD) {p : Program} {e : Env} {s : State} {m : MethodId} {av : Array Value} {below : List Frame} {meth : Method} {c : Code}  (n : Nat) : ∀ (M : MM) (x : Int32) (u : Int32) (z : Int32) (r : Int32) (M2 : MM), lp_X11_bellsThatAre_4 n M   x u z = some (r, M2) → CX p s m av c cX11_bellsThatAre 4 RX11 g → meth.sig.returnType = (some .int) → meth.locks = false → ∀ (H : Heap) (locs : List Loc), Wd g M H → sS g s H locs → ∀ ls : Array Slot, lv_has ls 4 [(0, rf g (1697)), (1, .int (x)), (2, .int (u)), (3, .int (z))] → W p l e (RM 1 22) s m av below meth c H locs 0 0 (MQ below (QQ g (fun v w0 => v = .int r ∧ M2 = w0)) av s 0 0 (AA g)) (F0 m 4 ls []) := by
  induction n with
  | zero => intro M x u z r M2 h; cases h
  | succ n ih0 =>
    intro M x u z r M2 h C hr hlk H locs hW hS ls hl
    have ih : ∀ (M : MM) (x : Int32) (u : Int32) (z : Int32), lp_X11_bellsThatAre_4 n M   x u z = some (r, M2) → ∀ (H : Heap) (locs : List Loc), Wd g M H → sS g s H locs → ∀ ls : Array Slot, lv_has ls 4 [(0, rf g (1697)), (1, .int (x)), (2, .int (u)), (3, .int (z))] → W p l e (RM 1 22) s m av below meth c H locs 0 0 (MQ below (QQ g (fun v w0 => v = .int r ∧ M2 = w0)) av s 0 0 (AA g)) (F0 m 4 ls []) := fun M x u z h H locs hW hS ls hl => ih0 M x u z r M2 h C hr hlk H locs hW hS ls hl
    unfold lp_X11_bellsThatAre_4 at h
    try dsimp only at h
    have hx := C.1
    have hb := C.2.1
    have hts := C.2.2.2.2.1
    refine lv_iload_n hx hb dX11_bellsThatAre_4 rfl (lv_at hl 3 rfl) ?_
    refine lv_aload_n hx hb dX11_bellsThatAre_5 rfl (lv_at hl 0 rfl) ?_
    refine rGet (k := 0) C hW (by decide) tm_Model rfl inX11 (by decide) fl_X11_7 rfl dX11_bellsThatAre_6 ?_
    refine lv_bipush (v := 52) hx hb dX11_bellsThatAre_9 (by decide) ?_
    have s1001 : vin (52) 1254 := Classical.byContradiction fun q9 => by rw [if_neg q9] at h; cases h
    rw [if_pos s1001] at h
    refine rIld C hW (by decide) tm_s s1001 dX11_bellsThatAre_11 ?_
    refine lv_icmp_ge (tgt := 40) hx hb dX11_bellsThatAre_12 (by decide) (fun c1002 => ?_) (fun c1002 => ?_)
    · rw [if_pos c1002] at h
      refine lv_iload_n hx hb dX11_bellsThatAre_40 rfl (lv_at hl 2 rfl) ?_
      cases h
      exact rI C hr hlk dX11_bellsThatAre_41 hW hS ⟨rfl, rfl⟩
    · rw [if_neg c1002] at h
      refine lv_iload_n hx hb dX11_bellsThatAre_15 rfl (lv_at hl 2 rfl) ?_
      refine lv_aload_n hx hb dX11_bellsThatAre_16 rfl (lv_at hl 0 rfl) ?_
      refine lv_iload_n hx hb dX11_bellsThatAre_17 rfl (lv_at hl 3 rfl) ?_
      refine lv_bipush (v := 6) hx hb dX11_bellsThatAre_18 (by decide) ?_
      obtain ⟨r1003, M1004, h1005, h⟩ := bind2 h
      refine cBack C.2.2.2.2.2.2.2.2 (runV (As := [.int (z), .int (6)]) (rest := [.int (u)]) C hW hS (c_X11_of l g M z 6 _ _ h1005) kV_X11_of ml_X11_104 (by decide) tm_Model rfl rfl rfl hl.1 rfl (Nat.le_of_ble_eq_true rfl) ⟨Nat.le_of_ble_eq_true rfl, Nat.le_of_ble_eq_true rfl⟩ ⟨Nat.zero_le _, Nat.zero_le _⟩ dX11_bellsThatAre_20) hS (fun v0 w0 H locs hp hW hS => ?_)
      obtain ⟨rfl, rfl⟩ := hp
      refine lv_iload_n hx hb dX11_bellsThatAre_23 rfl (lv_at hl 1 rfl) ?_
      refine lv_icmp_ne (tgt := 31) hx hb dX11_bellsThatAre_24 (by decide) (fun c1006 => ?_) (fun c1006 => ?_)
      · rw [if_neg c1006] at h
        refine lv_iconst (v := 0) hx hb dX11_bellsThatAre_31 (by decide) ?_
        refine lv_iadd hx hb dX11_bellsThatAre_32 ?_
        refine lv_istore_n (lv' := [(2, .int ((u) + (0))), (0, rf g (1697)), (1, .int (x)), (3, .int (z))]) hx hb dX11_bellsThatAre_33 rfl hl (by decide) rfl (fun ls hl => ?_)
        refine lv_iinc (v := z + 1) (lv' := [(3, .int (z + 1)), (2, .int ((u) + (0))), (0, rf g (1697)), (1, .int (x))]) hx hb dX11_bellsThatAre_34 hl (k := 3) rfl rfl (by decide) rfl (fun ls hl => ?_)
        refine lv_goto (tgt := 4) hx hb dX11_bellsThatAre_37 (by decide) ?_
        exact ih M1004 x ((u) + (0)) (z + 1) h _ _ hW hS ls (lv_sub hl [2, 3, 1, 0] rfl)
      · rw [if_pos c1006] at h
        refine lv_iconst (v := 1) hx hb dX11_bellsThatAre_27 (by decide) ?_
        refine lv_goto (tgt := 32) hx hb dX11_bellsThatAre_28 (by decide) ?_
        refine lv_iadd hx hb dX11_bellsThatAre_32 ?_
        refine lv_istore_n (lv' := [(2, .int ((u) + (1))), (0, rf g (1697)), (1, .int (x)), (3, .int (z))]) hx hb dX11_bellsThatAre_33 rfl hl (by decide) rfl (fun ls hl => ?_)
        refine lv_iinc (v := z + 1) (lv' := [(3, .int (z + 1)), (2, .int ((u) + (1))), (0, rf g (1697)), (1, .int (x))]) hx hb dX11_bellsThatAre_34 hl (k := 3) rfl rfl (by decide) rfl (fun ls hl => ?_)
        refine lv_goto (tgt := 4) hx hb dX11_bellsThatAre_37 (by decide) ?_
        exact ih M1004 x ((u) + (1)) (z + 1) h _ _ hW hS ls (lv_sub hl [2, 3, 1, 0] rfl)
set_option maxHeartbeats 4000000 in
set_option maxRecDepth 100000 in
theorem c_X11_bellsThatAre (l : Launch) (g : GD) (M : MM) (x : Int32) (r : Int32) (M2 : MM) (h : f_X11_bellsThatAre M x = some (r, M2)) : Met l yX11_bellsThatAre (wm yX11_bellsThatAre cX11_bellsThatAre 4 (some .int)) (RM 1 22) (va_Pc [rf g (1697), .int (x)] (WDp g M)) (QQ g (fun v w0 => v = .int r ∧ M2 = w0)) 0 0 (AA g) := by
  refine mkM (by decide +kernel) (Nat.le_of_ble_eq_true rfl) ?_
  intro p e s m below meth c C hr hlk hW hS ls hl
  have hl : lv_has ls 4 [(0, rf g (1697)), (1, .int (x))] := hl
  have hx := C.1
  have hb := C.2.1
  have hts := C.2.2.2.2.1
  unfold f_X11_bellsThatAre at h
  refine lv_iconst (v := 0) hx hb dX11_bellsThatAre_0 (by decide) ?_
  refine lv_istore_n (lv' := [(2, .int (0)), (0, rf g (1697)), (1, .int (x))]) hx hb dX11_bellsThatAre_1 rfl hl (by decide) rfl (fun ls hl => ?_)
  refine lv_iconst (v := 0) hx hb dX11_bellsThatAre_2 (by decide) ?_
  refine lv_istore_n (lv' := [(3, .int (0)), (2, .int (0)), (0, rf g (1697)), (1, .int (x))]) hx hb dX11_bellsThatAre_3 rfl hl (by decide) rfl (fun ls hl => ?_)
  exact t_X11_bellsThatAre_4 l g    FU M x 0 0 _ _ h C hr hlk _ _ hW hS ls (lv_sub hl [2, 3, 1, 0] rfl)
def f_X11_isPitch (M : MM) (x : Int32) (y : Int32) : Option (Int32 × MM) := (bnd2 (f_X11_ofOrder M y 1) fun r1 M2 => (bnd2 (f_X11_ofOrder M2 y 2) fun r4 M5 => (bnd2 (f_X11_ofOrder M5 y 2) fun r7 M8 => (bnd2 (f_X11_in M8 ((x) - (r1)) (-(r4)) r7) fun r10 M11 => some (r10, M11)))))
set_option maxHeartbeats 4000000 in
set_option maxRecDepth 100000 in
theorem c_X11_isPitch (l : Launch) (g : GD) (M : MM) (x : Int32) (y : Int32) (r : Int32) (M2 : MM) (h : f_X11_isPitch M x y = some (r, M2)) : Met l yX11_isPitch (wm yX11_isPitch cX11_isPitch 4 (some .boolean)) (RM 1 22) (va_Pc [rf g (1697), .int (x), .int (y)] (WDp g M)) (QQ g (fun v w0 => v = .int r ∧ M2 = w0 ∧ (r = 0 ∨ r = 1))) 0 0 (AA g) := by
  refine mkM (by decide +kernel) (Nat.le_of_ble_eq_true rfl) ?_
  intro p e s m below meth c C hr hlk hW hS ls hl
  have hl : lv_has ls 4 [(0, rf g (1697)), (1, .int (x)), (2, .int (y))] := hl
  have hx := C.1
  have hb := C.2.1
  have hts := C.2.2.2.2.1
  unfold f_X11_isPitch at h
  refine lv_iload_n hx hb dX11_isPitch_0 rfl (lv_at hl 1 rfl) ?_
  refine lv_aload_n hx hb dX11_isPitch_1 rfl (lv_at hl 0 rfl) ?_
  refine lv_iload_n hx hb dX11_isPitch_2 rfl (lv_at hl 2 rfl) ?_
  refine lv_iconst (v := 1) hx hb dX11_isPitch_3 (by decide) ?_
  obtain ⟨r1, M2, h3, h⟩ := bind2 h
  refine cBack C.2.2.2.2.2.2.2.2 (runV (As := [.int (y), .int (1)]) (rest := [.int (x)]) C hW hS (c_X11_ofOrder l g M y 1 _ _ h3) kV_X11_ofOrder ml_X11_148 (by decide) tm_Model rfl rfl rfl hl.1 rfl (Nat.le_of_ble_eq_true rfl) ⟨Nat.le_of_ble_eq_true rfl, Nat.le_of_ble_eq_true rfl⟩ ⟨Nat.zero_le _, Nat.zero_le _⟩ dX11_isPitch_4) hS (fun v0 w0 H locs hp hW hS => ?_)
  obtain ⟨rfl, rfl⟩ := hp
  refine lv_isub hx hb dX11_isPitch_7 ?_
  refine lv_istore_n (lv' := [(3, .int ((x) - (r1))), (0, rf g (1697)), (1, .int (x)), (2, .int (y))]) hx hb dX11_isPitch_8 rfl hl (by decide) rfl (fun ls hl => ?_)
  refine lv_iload_n hx hb dX11_isPitch_9 rfl (lv_at hl 0 rfl) ?_
  refine lv_aload_n hx hb dX11_isPitch_10 rfl (lv_at hl 1 rfl) ?_
  refine lv_iload_n hx hb dX11_isPitch_11 rfl (lv_at hl 3 rfl) ?_
  refine lv_iconst (v := 2) hx hb dX11_isPitch_12 (by decide) ?_
  obtain ⟨r4, M5, h6, h⟩ := bind2 h
  refine cBack C.2.2.2.2.2.2.2.2 (runV (As := [.int (y), .int (2)]) (rest := [.int ((x) - (r1))]) C hW hS (c_X11_ofOrder l g M2 y 2 _ _ h6) kV_X11_ofOrder ml_X11_148 (by decide) tm_Model rfl rfl rfl hl.1 rfl (Nat.le_of_ble_eq_true rfl) ⟨Nat.le_of_ble_eq_true rfl, Nat.le_of_ble_eq_true rfl⟩ ⟨Nat.zero_le _, Nat.zero_le _⟩ dX11_isPitch_13) hS (fun v0 w0 H locs hp hW hS => ?_)
  obtain ⟨rfl, rfl⟩ := hp
  refine lv_ineg hx hb dX11_isPitch_16 ?_
  refine lv_aload_n hx hb dX11_isPitch_17 rfl (lv_at hl 1 rfl) ?_
  refine lv_iload_n hx hb dX11_isPitch_18 rfl (lv_at hl 3 rfl) ?_
  refine lv_iconst (v := 2) hx hb dX11_isPitch_19 (by decide) ?_
  obtain ⟨r7, M8, h9, h⟩ := bind2 h
  refine cBack C.2.2.2.2.2.2.2.2 (runV (As := [.int (y), .int (2)]) (rest := [.int (-(r4)), .int ((x) - (r1))]) C hW hS (c_X11_ofOrder l g M5 y 2 _ _ h9) kV_X11_ofOrder ml_X11_148 (by decide) tm_Model rfl rfl rfl hl.1 rfl (Nat.le_of_ble_eq_true rfl) ⟨Nat.le_of_ble_eq_true rfl, Nat.le_of_ble_eq_true rfl⟩ ⟨Nat.zero_le _, Nat.zero_le _⟩ dX11_isPitch_20) hS (fun v0 w0 H locs hp hW hS => ?_)
  obtain ⟨rfl, rfl⟩ := hp
  obtain ⟨r10, M11, h12, h⟩ := bind2 h
  refine cBack C.2.2.2.2.2.2.2.2 (runS (As := [.int ((x) - (r1)), .int (-(r4)), .int (r7)]) (rest := []) C hW hS (c_X11_in l g M8 ((x) - (r1)) (-(r4)) r7 _ _ h12) kS_X11_in ml_X11_68 rfl hl.1 rfl (Nat.le_of_ble_eq_true rfl) ⟨Nat.le_of_ble_eq_true rfl, Nat.le_of_ble_eq_true rfl⟩ ⟨Nat.zero_le _, Nat.zero_le _⟩ dX11_isPitch_23) hS (fun v0 w0 H locs hp hW hS => ?_)
  obtain ⟨rfl, rfl, zr10⟩ := hp
  cases h
  exact rZ C hr hlk dX11_isPitch_26 hW hS (nar01 zr10) ⟨rfl, rfl, zr10⟩
def f_X11_fits (M : MM) (x : Int32) (y : Int32) : Option (Int32 × MM) := (bnd2 (f_X11_of M x 6) fun r1 M2 => (if (r1 : Int32) = 0 then (bnd2 (f_X11_of M2 x 2) fun r5 M6 => (bnd2 (f_X11_ofOrder M6 y 0) fun r8 M9 => (if (r5 : Int32) = (r8 : Int32) then (bnd2 (f_X11_of M9 x 3) fun r12 M13 => (bnd2 (f_X11_isPitch M13 r12 y) fun r15 M16 => (if (r15 : Int32) = 0 then some (0, M16) else some (1, M16)))) else some (0, M9)))) else some (0, M2)))
set_option maxHeartbeats 4000000 in
set_option maxRecDepth 100000 in
theorem c_X11_fits (l : Launch) (g : GD) (M : MM) (x : Int32) (y : Int32) (r : Int32) (M2 : MM) (h : f_X11_fits M x y = some (r, M2)) : Met l yX11_fits (wm yX11_fits cX11_fits 3 (some .boolean)) (RM 2 45) (va_Pc [rf g (1697), .int (x), .int (y)] (WDp g M)) (QQ g (fun v w0 => v = .int r ∧ M2 = w0 ∧ (r = 0 ∨ r = 1))) 0 0 (AA g) := by
  refine mkM (by decide +kernel) (Nat.le_of_ble_eq_true rfl) ?_
  intro p e s m below meth c C hr hlk hW hS ls hl
  have hl : lv_has ls 3 [(0, rf g (1697)), (1, .int (x)), (2, .int (y))] := hl
  have hx := C.1
  have hb := C.2.1
  have hts := C.2.2.2.2.1
  unfold f_X11_fits at h
  refine lv_aload_n hx hb dX11_fits_0 rfl (lv_at hl 0 rfl) ?_
  refine lv_iload_n hx hb dX11_fits_1 rfl (lv_at hl 1 rfl) ?_
  refine lv_bipush (v := 6) hx hb dX11_fits_2 (by decide) ?_
  obtain ⟨r1, M2, h3, h⟩ := bind2 h
  refine cBack C.2.2.2.2.2.2.2.2 (runV (As := [.int (x), .int (6)]) (rest := []) C hW hS (c_X11_of l g M x 6 _ _ h3) kV_X11_of ml_X11_104 (by decide) tm_Model rfl rfl rfl hl.1 rfl (Nat.le_of_ble_eq_true rfl) ⟨Nat.le_of_ble_eq_true rfl, Nat.le_of_ble_eq_true rfl⟩ ⟨Nat.zero_le _, Nat.zero_le _⟩ dX11_fits_4) hS (fun v0 w0 H locs hp hW hS => ?_)
  obtain ⟨rfl, rfl⟩ := hp
  refine lv_if_ne (tgt := 43) hx hb dX11_fits_7 (by decide) (fun c4 => ?_) (fun c4 => ?_)
  · rw [if_neg c4] at h
    refine lv_iconst (v := 0) hx hb dX11_fits_43 (by decide) ?_
    cases h
    exact rZ C hr hlk dX11_fits_44 hW hS (nar01 (Or.inl rfl)) ⟨rfl, rfl, (Or.inl rfl)⟩
  · rw [if_pos c4] at h
    refine lv_aload_n hx hb dX11_fits_10 rfl (lv_at hl 0 rfl) ?_
    refine lv_iload_n hx hb dX11_fits_11 rfl (lv_at hl 1 rfl) ?_
    refine lv_iconst (v := 2) hx hb dX11_fits_12 (by decide) ?_
    obtain ⟨r5, M6, h7, h⟩ := bind2 h
    refine cBack C.2.2.2.2.2.2.2.2 (runV (As := [.int (x), .int (2)]) (rest := []) C hW hS (c_X11_of l g M2 x 2 _ _ h7) kV_X11_of ml_X11_104 (by decide) tm_Model rfl rfl rfl hl.1 rfl (Nat.le_of_ble_eq_true rfl) ⟨Nat.le_of_ble_eq_true rfl, Nat.le_of_ble_eq_true rfl⟩ ⟨Nat.zero_le _, Nat.zero_le _⟩ dX11_fits_13) hS (fun v0 w0 H locs hp hW hS => ?_)
    obtain ⟨rfl, rfl⟩ := hp
    refine lv_aload_n hx hb dX11_fits_16 rfl (lv_at hl 0 rfl) ?_
    refine lv_iload_n hx hb dX11_fits_17 rfl (lv_at hl 2 rfl) ?_
    refine lv_iconst (v := 0) hx hb dX11_fits_18 (by decide) ?_
    obtain ⟨r8, M9, h10, h⟩ := bind2 h
    refine cBack C.2.2.2.2.2.2.2.2 (runV (As := [.int (y), .int (0)]) (rest := [.int (r5)]) C hW hS (c_X11_ofOrder l g M6 y 0 _ _ h10) kV_X11_ofOrder ml_X11_148 (by decide) tm_Model rfl rfl rfl hl.1 rfl (Nat.le_of_ble_eq_true rfl) ⟨Nat.le_of_ble_eq_true rfl, Nat.le_of_ble_eq_true rfl⟩ ⟨Nat.zero_le _, Nat.zero_le _⟩ dX11_fits_19) hS (fun v0 w0 H locs hp hW hS => ?_)
    obtain ⟨rfl, rfl⟩ := hp
    refine lv_icmp_ne (tgt := 43) hx hb dX11_fits_22 (by decide) (fun c11 => ?_) (fun c11 => ?_)
    · rw [if_neg c11] at h
      refine lv_iconst (v := 0) hx hb dX11_fits_43 (by decide) ?_
      cases h
      exact rZ C hr hlk dX11_fits_44 hW hS (nar01 (Or.inl rfl)) ⟨rfl, rfl, (Or.inl rfl)⟩
    · rw [if_pos c11] at h
      refine lv_aload_n hx hb dX11_fits_25 rfl (lv_at hl 0 rfl) ?_
      refine lv_aload_n hx hb dX11_fits_26 rfl (lv_at hl 0 rfl) ?_
      refine lv_iload_n hx hb dX11_fits_27 rfl (lv_at hl 1 rfl) ?_
      refine lv_iconst (v := 3) hx hb dX11_fits_28 (by decide) ?_
      obtain ⟨r12, M13, h14, h⟩ := bind2 h
      refine cBack C.2.2.2.2.2.2.2.2 (runV (As := [.int (x), .int (3)]) (rest := [rf g (1697)]) C hW hS (c_X11_of l g M9 x 3 _ _ h14) kV_X11_of ml_X11_104 (by decide) tm_Model rfl rfl rfl hl.1 rfl (Nat.le_of_ble_eq_true rfl) ⟨Nat.le_of_ble_eq_true rfl, Nat.le_of_ble_eq_true rfl⟩ ⟨Nat.zero_le _, Nat.zero_le _⟩ dX11_fits_29) hS (fun v0 w0 H locs hp hW hS => ?_)
      obtain ⟨rfl, rfl⟩ := hp
      refine lv_iload_n hx hb dX11_fits_32 rfl (lv_at hl 2 rfl) ?_
      obtain ⟨r15, M16, h17, h⟩ := bind2 h
      refine cBack C.2.2.2.2.2.2.2.2 (runV (As := [.int (r12), .int (y)]) (rest := []) C hW hS (c_X11_isPitch l g M13 r12 y _ _ h17) kV_X11_isPitch ml_X11_151 (by decide) tm_Model rfl rfl rfl hl.1 rfl (Nat.le_of_ble_eq_true rfl) ⟨Nat.le_of_ble_eq_true rfl, Nat.le_of_ble_eq_true rfl⟩ ⟨Nat.zero_le _, Nat.zero_le _⟩ dX11_fits_33) hS (fun v0 w0 H locs hp hW hS => ?_)
      obtain ⟨rfl, rfl, zr15⟩ := hp
      refine lv_if_eq (tgt := 43) hx hb dX11_fits_36 (by decide) (fun c18 => ?_) (fun c18 => ?_)
      · rw [if_pos c18] at h
        refine lv_iconst (v := 0) hx hb dX11_fits_43 (by decide) ?_
        cases h
        exact rZ C hr hlk dX11_fits_44 hW hS (nar01 (Or.inl rfl)) ⟨rfl, rfl, (Or.inl rfl)⟩
      · rw [if_neg c18] at h
        refine lv_iconst (v := 1) hx hb dX11_fits_39 (by decide) ?_
        refine lv_goto (tgt := 44) hx hb dX11_fits_40 (by decide) ?_
        cases h
        exact rZ C hr hlk dX11_fits_44 hW hS (nar01 (Or.inr rfl)) ⟨rfl, rfl, (Or.inr rfl)⟩
def f_X11_order (M : MM) (x : Int32) (y : Int32) (u : Int32) : Option (Int32 × MM) := (bnd2 (f_X11_in M x 0 3) fun r1 M2 => (if (r1 : Int32) = 0 then some (-1, M2) else (bnd2 (f_X11_in M2 y 1 20000) fun r5 M6 => (if (r5 : Int32) = 0 then some (-1, M6) else (bnd2 (f_X11_in M6 u 0 500) fun r9 M10 => (if (r9 : Int32) = 0 then some (-1, M10) else (bnd2 (f_X11_ordersThatAre M10 0) fun r13 M14 => (if (r13 : Int32) = (8 : Int32) then some (-3, M14) else (if vin (53) 1254 then (if (M14 21 (53 : Int32).toNatClampNeg : Int32) = (100 : Int32) then some (-3, M14) else (bnd2 (f_X11_keeps M14 ) fun r19 M20 => (if vin (53) 1254 then (if vin ((854) + ((4) * (M20 21 (53 : Int32).toNatClampNeg))) 1254 then (letB (up2 M20 21 ((854) + ((4) * (M20 21 (53 : Int32).toNatClampNeg)) : Int32).toNatClampNeg (x)) fun M24 => (if vin (((854) + ((4) * (M20 21 (53 : Int32).toNatClampNeg))) + (1)) 1254 then (letB (up2 M24 21 (((854) + ((4) * (M20 21 (53 : Int32).toNatClampNeg))) + (1) : Int32).toNatClampNeg (y)) fun M26 => (if vin (((854) + ((4) * (M20 21 (53 : Int32).toNatClampNeg))) + (2)) 1254 then (letB (up2 M26 21 (((854) + ((4) * (M20 21 (53 : Int32).toNatClampNeg))) + (2) : Int32).toNatClampNeg (u)) fun M28 => (if vin (((854) + ((4) * (M20 21 (53 : Int32).toNatClampNeg))) + (3)) 1254 then (letB (up2 M28 21 (((854) + ((4) * (M20 21 (53 : Int32).toNatClampNeg))) + (3) : Int32).toNatClampNeg (0)) fun M30 => (if vin (53) 1254 then (if vin (53) 1254 then (letB (up2 M30 21 (53 : Int32).toNatClampNeg ((M30 21 (53 : Int32).toNatClampNeg) + (1))) fun M33 => (if vin (53) 1254 then some ((M33 21 (53 : Int32).toNatClampNeg) - (1), M33) else none)) else none) else none)) else none)) else none)) else none)) else none) else none))) else none)))))))))
set_option maxHeartbeats 4000000 in
set_option maxRecDepth 100000 in
theorem c_X11_order (l : Launch) (g : GD) (M : MM) (x : Int32) (y : Int32) (u : Int32) (r : Int32) (M2 : MM) (h : f_X11_order M x y u = some (r, M2)) : Met l yX11_order (wm yX11_order cX11_order 5 (some .int)) (RM 2 45) (va_Pc [rf g (1697), .int (x), .int (y), .int (u)] (WDp g M)) (QQ g (fun v w0 => v = .int r ∧ M2 = w0)) 0 0 (AA g) := by
  refine mkM (by decide +kernel) (Nat.le_of_ble_eq_true rfl) ?_
  intro p e s m below meth c C hr hlk hW hS ls hl
  have hl : lv_has ls 5 [(0, rf g (1697)), (1, .int (x)), (2, .int (y)), (3, .int (u))] := hl
  have hx := C.1
  have hb := C.2.1
  have hts := C.2.2.2.2.1
  unfold f_X11_order at h
  refine lv_iload_n hx hb dX11_order_0 rfl (lv_at hl 1 rfl) ?_
  refine lv_iconst (v := 0) hx hb dX11_order_1 (by decide) ?_
  refine lv_iconst (v := 3) hx hb dX11_order_2 (by decide) ?_
  obtain ⟨r1, M2, h3, h⟩ := bind2 h
  refine cBack C.2.2.2.2.2.2.2.2 (runS (As := [.int (x), .int (0), .int (3)]) (rest := []) C hW hS (c_X11_in l g M x 0 3 _ _ h3) kS_X11_in ml_X11_68 rfl hl.1 rfl (Nat.le_of_ble_eq_true rfl) ⟨Nat.le_of_ble_eq_true rfl, Nat.le_of_ble_eq_true rfl⟩ ⟨Nat.zero_le _, Nat.zero_le _⟩ dX11_order_3) hS (fun v0 w0 H locs hp hW hS => ?_)
  obtain ⟨rfl, rfl, zr1⟩ := hp
  refine lv_if_eq (tgt := 31) hx hb dX11_order_6 (by decide) (fun c4 => ?_) (fun c4 => ?_)
  · rw [if_pos c4] at h
    refine lv_iconst (v := -1) hx hb dX11_order_31 (by decide) ?_
    cases h
    exact rI C hr hlk dX11_order_32 hW hS ⟨rfl, rfl⟩
  · rw [if_neg c4] at h
    refine lv_iload_n hx hb dX11_order_9 rfl (lv_at hl 2 rfl) ?_
    refine lv_iconst (v := 1) hx hb dX11_order_10 (by decide) ?_
    refine lv_sipush (v := 20000) hx hb dX11_order_11 (by decide) ?_
    obtain ⟨r5, M6, h7, h⟩ := bind2 h
    refine cBack C.2.2.2.2.2.2.2.2 (runS (As := [.int (y), .int (1), .int (20000)]) (rest := []) C hW hS (c_X11_in l g M2 y 1 20000 _ _ h7) kS_X11_in ml_X11_68 rfl hl.1 rfl (Nat.le_of_ble_eq_true rfl) ⟨Nat.le_of_ble_eq_true rfl, Nat.le_of_ble_eq_true rfl⟩ ⟨Nat.zero_le _, Nat.zero_le _⟩ dX11_order_14) hS (fun v0 w0 H locs hp hW hS => ?_)
    obtain ⟨rfl, rfl, zr5⟩ := hp
    refine lv_if_eq (tgt := 31) hx hb dX11_order_17 (by decide) (fun c8 => ?_) (fun c8 => ?_)
    · rw [if_pos c8] at h
      refine lv_iconst (v := -1) hx hb dX11_order_31 (by decide) ?_
      cases h
      exact rI C hr hlk dX11_order_32 hW hS ⟨rfl, rfl⟩
    · rw [if_neg c8] at h
      refine lv_iload_n hx hb dX11_order_20 rfl (lv_at hl 3 rfl) ?_
      refine lv_iconst (v := 0) hx hb dX11_order_21 (by decide) ?_
      refine lv_sipush (v := 500) hx hb dX11_order_22 (by decide) ?_
      obtain ⟨r9, M10, h11, h⟩ := bind2 h
      refine cBack C.2.2.2.2.2.2.2.2 (runS (As := [.int (u), .int (0), .int (500)]) (rest := []) C hW hS (c_X11_in l g M6 u 0 500 _ _ h11) kS_X11_in ml_X11_68 rfl hl.1 rfl (Nat.le_of_ble_eq_true rfl) ⟨Nat.le_of_ble_eq_true rfl, Nat.le_of_ble_eq_true rfl⟩ ⟨Nat.zero_le _, Nat.zero_le _⟩ dX11_order_25) hS (fun v0 w0 H locs hp hW hS => ?_)
      obtain ⟨rfl, rfl, zr9⟩ := hp
      refine lv_if_ne (tgt := 33) hx hb dX11_order_28 (by decide) (fun c12 => ?_) (fun c12 => ?_)
      · rw [if_neg c12] at h
        refine lv_aload_n hx hb dX11_order_33 rfl (lv_at hl 0 rfl) ?_
        refine lv_iconst (v := 0) hx hb dX11_order_34 (by decide) ?_
        obtain ⟨r13, M14, h15, h⟩ := bind2 h
        refine cBack C.2.2.2.2.2.2.2.2 (runV (As := [.int (0)]) (rest := []) C hW hS (c_X11_ordersThatAre l g M10 0 _ _ h15) kV_X11_ordersThatAre ml_X11_154 (by decide) tm_Model rfl rfl rfl hl.1 rfl (Nat.le_of_ble_eq_true rfl) ⟨Nat.le_of_ble_eq_true rfl, Nat.le_of_ble_eq_true rfl⟩ ⟨Nat.zero_le _, Nat.zero_le _⟩ dX11_order_35) hS (fun v0 w0 H locs hp hW hS => ?_)
        obtain ⟨rfl, rfl⟩ := hp
        refine lv_bipush (v := 8) hx hb dX11_order_38 (by decide) ?_
        refine lv_icmp_eq (tgt := 55) hx hb dX11_order_40 (by decide) (fun c16 => ?_) (fun c16 => ?_)
        · rw [if_pos c16] at h
          refine lv_bipush (v := -3) hx hb dX11_order_55 (by decide) ?_
          cases h
          exact rI C hr hlk dX11_order_57 hW hS ⟨rfl, rfl⟩
        · rw [if_neg c16] at h
          refine lv_aload_n hx hb dX11_order_43 rfl (lv_at hl 0 rfl) ?_
          refine rGet (k := 0) C hW (by decide) tm_Model rfl inX11 (by decide) fl_X11_7 rfl dX11_order_44 ?_
          refine lv_bipush (v := 53) hx hb dX11_order_47 (by decide) ?_
          have s17 : vin (53) 1254 := Classical.byContradiction fun q9 => by rw [if_neg q9] at h; cases h
          rw [if_pos s17] at h
          refine rIld C hW (by decide) tm_s s17 dX11_order_49 ?_
          refine lv_bipush (v := 100) hx hb dX11_order_50 (by decide) ?_
          refine lv_icmp_ne (tgt := 58) hx hb dX11_order_52 (by decide) (fun c18 => ?_) (fun c18 => ?_)
          · rw [if_neg c18] at h
            refine lv_aload_n hx hb dX11_order_58 rfl (lv_at hl 0 rfl) ?_
            obtain ⟨r19, M20, h21, h⟩ := bind2 h
            refine cBackV C.2.2.2.2.2.2.2.2 (runV (As := []) (rest := []) C hW hS (c_X11_keeps l g M14  _ _ h21) kV_X11_keeps ml_X11_85 (by decide) tm_Model rfl rfl rfl hl.1 rfl (Nat.le_of_ble_eq_true rfl) ⟨Nat.le_of_ble_eq_true rfl, Nat.le_of_ble_eq_true rfl⟩ ⟨Nat.zero_le _, Nat.zero_le _⟩ dX11_order_59) hS (fun v0 H locs hp hW hS => ?_)
            subst hp
            refine lv_sipush (v := 854) hx hb dX11_order_62 (by decide) ?_
            refine lv_iconst (v := 4) hx hb dX11_order_65 (by decide) ?_
            refine lv_aload_n hx hb dX11_order_66 rfl (lv_at hl 0 rfl) ?_
            refine rGet (k := 0) C hW (by decide) tm_Model rfl inX11 (by decide) fl_X11_7 rfl dX11_order_67 ?_
            refine lv_bipush (v := 53) hx hb dX11_order_70 (by decide) ?_
            have s22 : vin (53) 1254 := Classical.byContradiction fun q9 => by rw [if_neg q9] at h; cases h
            rw [if_pos s22] at h
            refine rIld C hW (by decide) tm_s s22 dX11_order_72 ?_
            refine lv_imul hx hb dX11_order_73 ?_
            refine lv_iadd hx hb dX11_order_74 ?_
            refine lv_istore (lv' := [(4, .int ((854) + ((4) * (M20 21 (53 : Int32).toNatClampNeg)))), (0, rf g (1697)), (1, .int (x)), (2, .int (y)), (3, .int (u))]) hx hb dX11_order_75 hl (by decide) rfl (fun ls hl => ?_)
            refine lv_aload_n hx hb dX11_order_77 rfl (lv_at hl 1 rfl) ?_
            refine rGet (k := 0) C hW (by decide) tm_Model rfl inX11 (by decide) fl_X11_7 rfl dX11_order_78 ?_
            refine lv_iload hx hb dX11_order_81 (lv_at hl 0 rfl) ?_
            refine lv_iload_n hx hb dX11_order_83 rfl (lv_at hl 2 rfl) ?_
            have s23 : vin ((854) + ((4) * (M20 21 (53 : Int32).toNatClampNeg))) 1254 := Classical.byContradiction fun q9 => by rw [if_neg q9] at h; cases h
            rw [if_pos s23] at h
            refine rIst (M' := up2 M20 21 ((854) + ((4) * (M20 21 (53 : Int32).toNatClampNeg)) : Int32).toNatClampNeg (x)) C hW hS (by decide) tm_s s23 (UPD_G (by decide) rfl (by rw [tm_s, up2_gr])) dX11_order_84 (fun H locs hW hS => ?_)
            have hW : Wd g (up2 M20 21 ((854) + ((4) * (M20 21 (53 : Int32).toNatClampNeg)) : Int32).toNatClampNeg (x)) H := hW
            have h := letE h
            generalize up2 M20 21 ((854) + ((4) * (M20 21 (53 : Int32).toNatClampNeg)) : Int32).toNatClampNeg (x) = M24 at hW h
            refine lv_aload_n hx hb dX11_order_85 rfl (lv_at hl 1 rfl) ?_
            refine rGet (k := 0) C hW (by decide) tm_Model rfl inX11 (by decide) fl_X11_7 rfl dX11_order_86 ?_
            refine lv_iload hx hb dX11_order_89 (lv_at hl 0 rfl) ?_
            refine lv_iconst (v := 1) hx hb dX11_order_91 (by decide) ?_
            refine lv_iadd hx hb dX11_order_92 ?_
            refine lv_iload_n hx hb dX11_order_93 rfl (lv_at hl 3 rfl) ?_
            have s25 : vin (((854) + ((4) * (M20 21 (53 : Int32).toNatClampNeg))) + (1)) 1254 := Classical.byContradiction fun q9 => by rw [if_neg q9] at h; cases h
            rw [if_pos s25] at h
            refine rIst (M' := up2 M24 21 (((854) + ((4) * (M20 21 (53 : Int32).toNatClampNeg))) + (1) : Int32).toNatClampNeg (y)) C hW hS (by decide) tm_s s25 (UPD_G (by decide) rfl (by rw [tm_s, up2_gr])) dX11_order_94 (fun H locs hW hS => ?_)
            have hW : Wd g (up2 M24 21 (((854) + ((4) * (M20 21 (53 : Int32).toNatClampNeg))) + (1) : Int32).toNatClampNeg (y)) H := hW
            have h := letE h
            generalize up2 M24 21 (((854) + ((4) * (M20 21 (53 : Int32).toNatClampNeg))) + (1) : Int32).toNatClampNeg (y) = M26 at hW h
            refine lv_aload_n hx hb dX11_order_95 rfl (lv_at hl 1 rfl) ?_
            refine rGet (k := 0) C hW (by decide) tm_Model rfl inX11 (by decide) fl_X11_7 rfl dX11_order_96 ?_
            refine lv_iload hx hb dX11_order_99 (lv_at hl 0 rfl) ?_
            refine lv_iconst (v := 2) hx hb dX11_order_101 (by decide) ?_
            refine lv_iadd hx hb dX11_order_102 ?_
            refine lv_iload_n hx hb dX11_order_103 rfl (lv_at hl 4 rfl) ?_
            have s27 : vin (((854) + ((4) * (M20 21 (53 : Int32).toNatClampNeg))) + (2)) 1254 := Classical.byContradiction fun q9 => by rw [if_neg q9] at h; cases h
            rw [if_pos s27] at h
            refine rIst (M' := up2 M26 21 (((854) + ((4) * (M20 21 (53 : Int32).toNatClampNeg))) + (2) : Int32).toNatClampNeg (u)) C hW hS (by decide) tm_s s27 (UPD_G (by decide) rfl (by rw [tm_s, up2_gr])) dX11_order_104 (fun H locs hW hS => ?_)
            have hW : Wd g (up2 M26 21 (((854) + ((4) * (M20 21 (53 : Int32).toNatClampNeg))) + (2) : Int32).toNatClampNeg (u)) H := hW
            have h := letE h
            generalize up2 M26 21 (((854) + ((4) * (M20 21 (53 : Int32).toNatClampNeg))) + (2) : Int32).toNatClampNeg (u) = M28 at hW h
            refine lv_aload_n hx hb dX11_order_105 rfl (lv_at hl 1 rfl) ?_
            refine rGet (k := 0) C hW (by decide) tm_Model rfl inX11 (by decide) fl_X11_7 rfl dX11_order_106 ?_
            refine lv_iload hx hb dX11_order_109 (lv_at hl 0 rfl) ?_
            refine lv_iconst (v := 3) hx hb dX11_order_111 (by decide) ?_
            refine lv_iadd hx hb dX11_order_112 ?_
            refine lv_iconst (v := 0) hx hb dX11_order_113 (by decide) ?_
            have s29 : vin (((854) + ((4) * (M20 21 (53 : Int32).toNatClampNeg))) + (3)) 1254 := Classical.byContradiction fun q9 => by rw [if_neg q9] at h; cases h
            rw [if_pos s29] at h
            refine rIst (M' := up2 M28 21 (((854) + ((4) * (M20 21 (53 : Int32).toNatClampNeg))) + (3) : Int32).toNatClampNeg (0)) C hW hS (by decide) tm_s s29 (UPD_G (by decide) rfl (by rw [tm_s, up2_gr])) dX11_order_114 (fun H locs hW hS => ?_)
            have hW : Wd g (up2 M28 21 (((854) + ((4) * (M20 21 (53 : Int32).toNatClampNeg))) + (3) : Int32).toNatClampNeg (0)) H := hW
            have h := letE h
            generalize up2 M28 21 (((854) + ((4) * (M20 21 (53 : Int32).toNatClampNeg))) + (3) : Int32).toNatClampNeg (0) = M30 at hW h
            refine lv_aload_n hx hb dX11_order_115 rfl (lv_at hl 1 rfl) ?_
            refine rGet (k := 0) C hW (by decide) tm_Model rfl inX11 (by decide) fl_X11_7 rfl dX11_order_116 ?_
            refine lv_bipush (v := 53) hx hb dX11_order_119 (by decide) ?_
            refine lv_dup2_11 hx hb dX11_order_121 rfl rfl ?_
            have s31 : vin (53) 1254 := Classical.byContradiction fun q9 => by rw [if_neg q9] at h; cases h
            rw [if_pos s31] at h
            refine rIld C hW (by decide) tm_s s31 dX11_order_122 ?_
            refine lv_iconst (v := 1) hx hb dX11_order_123 (by decide) ?_
            refine lv_iadd hx hb dX11_order_124 ?_
            have s32 : vin (53) 1254 := Classical.byContradiction fun q9 => by rw [if_neg q9] at h; cases h
            rw [if_pos s32] at h
            refine rIst (M' := up2 M30 21 (53 : Int32).toNatClampNeg ((M30 21 (53 : Int32).toNatClampNeg) + (1))) C hW hS (by decide) tm_s s32 (UPD_G (by decide) rfl (by rw [tm_s, up2_gr])) dX11_order_125 (fun H locs hW hS => ?_)
            have hW : Wd g (up2 M30 21 (53 : Int32).toNatClampNeg ((M30 21 (53 : Int32).toNatClampNeg) + (1))) H := hW
            have h := letE h
            generalize up2 M30 21 (53 : Int32).toNatClampNeg ((M30 21 (53 : Int32).toNatClampNeg) + (1)) = M33 at hW h
            refine lv_aload_n hx hb dX11_order_126 rfl (lv_at hl 1 rfl) ?_
            refine rGet (k := 0) C hW (by decide) tm_Model rfl inX11 (by decide) fl_X11_7 rfl dX11_order_127 ?_
            refine lv_bipush (v := 53) hx hb dX11_order_130 (by decide) ?_
            have s34 : vin (53) 1254 := Classical.byContradiction fun q9 => by rw [if_neg q9] at h; cases h
            rw [if_pos s34] at h
            refine rIld C hW (by decide) tm_s s34 dX11_order_132 ?_
            refine lv_iconst (v := 1) hx hb dX11_order_133 (by decide) ?_
            refine lv_isub hx hb dX11_order_134 ?_
            cases h
            exact rI C hr hlk dX11_order_135 hW hS ⟨rfl, rfl⟩
          · rw [if_pos c18] at h
            refine lv_bipush (v := -3) hx hb dX11_order_55 (by decide) ?_
            cases h
            exact rI C hr hlk dX11_order_57 hW hS ⟨rfl, rfl⟩
      · rw [if_pos c12] at h
        refine lv_iconst (v := -1) hx hb dX11_order_31 (by decide) ?_
        cases h
        exact rI C hr hlk dX11_order_32 hW hS ⟨rfl, rfl⟩
def f_X11_cancel (M : MM) (x : Int32) : Option (Int32 × MM) := (bnd2 (f_X11_isOrder M x) fun r1 M2 => (if (r1 : Int32) = 0 then some (-1, M2) else (bnd2 (f_X11_ofOrder M2 x 3) fun r5 M6 => (if (r5 : Int32) = 0 then (bnd2 (f_X11_keeps M6 ) fun r9 M10 => (if vin (((854) + ((4) * (x))) + (3)) 1254 then (letB (up2 M10 21 (((854) + ((4) * (x))) + (3) : Int32).toNatClampNeg (2)) fun M13 => (bnd2 (f_X11_ordersThatAre M13 0) fun r14 M15 => some (r14, M15))) else none)) else some (-2, M6)))))
set_option maxHeartbeats 4000000 in
set_option maxRecDepth 100000 in
theorem c_X11_cancel (l : Launch) (g : GD) (M : MM) (x : Int32) (r : Int32) (M2 : MM) (h : f_X11_cancel M x = some (r, M2)) : Met l yX11_cancel (wm yX11_cancel cX11_cancel 2 (some .int)) (RM 2 45) (va_Pc [rf g (1697), .int (x)] (WDp g M)) (QQ g (fun v w0 => v = .int r ∧ M2 = w0)) 0 0 (AA g) := by
  refine mkM (by decide +kernel) (Nat.le_of_ble_eq_true rfl) ?_
  intro p e s m below meth c C hr hlk hW hS ls hl
  have hl : lv_has ls 2 [(0, rf g (1697)), (1, .int (x))] := hl
  have hx := C.1
  have hb := C.2.1
  have hts := C.2.2.2.2.1
  unfold f_X11_cancel at h
  refine lv_aload_n hx hb dX11_cancel_0 rfl (lv_at hl 0 rfl) ?_
  refine lv_iload_n hx hb dX11_cancel_1 rfl (lv_at hl 1 rfl) ?_
  obtain ⟨r1, M2, h3, h⟩ := bind2 h
  refine cBack C.2.2.2.2.2.2.2.2 (runV (As := [.int (x)]) (rest := []) C hW hS (c_X11_isOrder l g M x _ _ h3) kV_X11_isOrder ml_X11_157 (by decide) tm_Model rfl rfl rfl hl.1 rfl (Nat.le_of_ble_eq_true rfl) ⟨Nat.le_of_ble_eq_true rfl, Nat.le_of_ble_eq_true rfl⟩ ⟨Nat.zero_le _, Nat.zero_le _⟩ dX11_cancel_2) hS (fun v0 w0 H locs hp hW hS => ?_)
  obtain ⟨rfl, rfl, zr1⟩ := hp
  refine lv_if_ne (tgt := 10) hx hb dX11_cancel_5 (by decide) (fun c4 => ?_) (fun c4 => ?_)
  · rw [if_neg c4] at h
    refine lv_aload_n hx hb dX11_cancel_10 rfl (lv_at hl 0 rfl) ?_
    refine lv_iload_n hx hb dX11_cancel_11 rfl (lv_at hl 1 rfl) ?_
    refine lv_iconst (v := 3) hx hb dX11_cancel_12 (by decide) ?_
    obtain ⟨r5, M6, h7, h⟩ := bind2 h
    refine cBack C.2.2.2.2.2.2.2.2 (runV (As := [.int (x), .int (3)]) (rest := []) C hW hS (c_X11_ofOrder l g M2 x 3 _ _ h7) kV_X11_ofOrder ml_X11_148 (by decide) tm_Model rfl rfl rfl hl.1 rfl (Nat.le_of_ble_eq_true rfl) ⟨Nat.le_of_ble_eq_true rfl, Nat.le_of_ble_eq_true rfl⟩ ⟨Nat.zero_le _, Nat.zero_le _⟩ dX11_cancel_13) hS (fun v0 w0 H locs hp hW hS => ?_)
    obtain ⟨rfl, rfl⟩ := hp
    refine lv_if_eq (tgt := 22) hx hb dX11_cancel_16 (by decide) (fun c8 => ?_) (fun c8 => ?_)
    · rw [if_pos c8] at h
      refine lv_aload_n hx hb dX11_cancel_22 rfl (lv_at hl 0 rfl) ?_
      obtain ⟨r9, M10, h11, h⟩ := bind2 h
      refine cBackV C.2.2.2.2.2.2.2.2 (runV (As := []) (rest := []) C hW hS (c_X11_keeps l g M6  _ _ h11) kV_X11_keeps ml_X11_85 (by decide) tm_Model rfl rfl rfl hl.1 rfl (Nat.le_of_ble_eq_true rfl) ⟨Nat.le_of_ble_eq_true rfl, Nat.le_of_ble_eq_true rfl⟩ ⟨Nat.zero_le _, Nat.zero_le _⟩ dX11_cancel_23) hS (fun v0 H locs hp hW hS => ?_)
      subst hp
      refine lv_aload_n hx hb dX11_cancel_26 rfl (lv_at hl 0 rfl) ?_
      refine rGet (k := 0) C hW (by decide) tm_Model rfl inX11 (by decide) fl_X11_7 rfl dX11_cancel_27 ?_
      refine lv_sipush (v := 854) hx hb dX11_cancel_30 (by decide) ?_
      refine lv_iconst (v := 4) hx hb dX11_cancel_33 (by decide) ?_
      refine lv_iload_n hx hb dX11_cancel_34 rfl (lv_at hl 1 rfl) ?_
      refine lv_imul hx hb dX11_cancel_35 ?_
      refine lv_iadd hx hb dX11_cancel_36 ?_
      refine lv_iconst (v := 3) hx hb dX11_cancel_37 (by decide) ?_
      refine lv_iadd hx hb dX11_cancel_38 ?_
      refine lv_iconst (v := 2) hx hb dX11_cancel_39 (by decide) ?_
      have s12 : vin (((854) + ((4) * (x))) + (3)) 1254 := Classical.byContradiction fun q9 => by rw [if_neg q9] at h; cases h
      rw [if_pos s12] at h
      refine rIst (M' := up2 M10 21 (((854) + ((4) * (x))) + (3) : Int32).toNatClampNeg (2)) C hW hS (by decide) tm_s s12 (UPD_G (by decide) rfl (by rw [tm_s, up2_gr])) dX11_cancel_40 (fun H locs hW hS => ?_)
      have hW : Wd g (up2 M10 21 (((854) + ((4) * (x))) + (3) : Int32).toNatClampNeg (2)) H := hW
      have h := letE h
      generalize up2 M10 21 (((854) + ((4) * (x))) + (3) : Int32).toNatClampNeg (2) = M13 at hW h
      refine lv_aload_n hx hb dX11_cancel_41 rfl (lv_at hl 0 rfl) ?_
      refine lv_iconst (v := 0) hx hb dX11_cancel_42 (by decide) ?_
      obtain ⟨r14, M15, h16, h⟩ := bind2 h
      refine cBack C.2.2.2.2.2.2.2.2 (runV (As := [.int (0)]) (rest := []) C hW hS (c_X11_ordersThatAre l g M13 0 _ _ h16) kV_X11_ordersThatAre ml_X11_154 (by decide) tm_Model rfl rfl rfl hl.1 rfl (Nat.le_of_ble_eq_true rfl) ⟨Nat.le_of_ble_eq_true rfl, Nat.le_of_ble_eq_true rfl⟩ ⟨Nat.zero_le _, Nat.zero_le _⟩ dX11_cancel_43) hS (fun v0 w0 H locs hp hW hS => ?_)
      obtain ⟨rfl, rfl⟩ := hp
      cases h
      exact rI C hr hlk dX11_cancel_46 hW hS ⟨rfl, rfl⟩
    · rw [if_neg c8] at h
      refine lv_bipush (v := -2) hx hb dX11_cancel_19 (by decide) ?_
      cases h
      exact rI C hr hlk dX11_cancel_21 hW hS ⟨rfl, rfl⟩
  · rw [if_pos c4] at h
    refine lv_iconst (v := -1) hx hb dX11_cancel_8 (by decide) ?_
    cases h
    exact rI C hr hlk dX11_cancel_9 hW hS ⟨rfl, rfl⟩
def f_X11_send (M : MM) (x : Int32) (y : Int32) : Option (Int32 × MM) := (bnd2 (f_X11_isBell M x) fun r1 M2 => (if (r1 : Int32) = 0 then some (-1, M2) else (bnd2 (f_X11_isOrder M2 y) fun r5 M6 => (if (r5 : Int32) = 0 then some (-1, M6) else (bnd2 (f_X11_atBell M6 x) fun r9 M10 => (bnd2 (f_X11_weight M10 r9) fun r12 M13 => (bnd2 (f_X11_fits M13 x y) fun r15 M16 => (if (r15 : Int32) = 0 then some (-2, M16) else (bnd2 (f_X11_ofOrder M16 y 3) fun r19 M20 => (if (r19 : Int32) = 0 then (bnd2 (f_X11_setting M20 6) fun r23 M24 => (if (r12 : Int32) ≤ (r23 : Int32) then (bnd2 (f_X11_keeps M24 ) fun r27 M28 => (bnd2 (f_X11_atBell M28 x) fun r30 M31 => (if vin ((r30) + (6)) 1254 then (letB (up2 M31 21 ((r30) + (6) : Int32).toNatClampNeg (2)) fun M34 => (bnd2 (f_X11_atBell M34 x) fun r35 M36 => (if vin ((r35) + (7)) 1254 then (letB (up2 M36 21 ((r35) + (7) : Int32).toNatClampNeg (y)) fun M39 => (if vin (((854) + ((4) * (y))) + (3)) 1254 then (letB (up2 M39 21 (((854) + ((4) * (y))) + (3) : Int32).toNatClampNeg (1)) fun M41 => some (r12, M41)) else none)) else none))) else none))) else some (-2, M24))) else some (-2, M20)))))))))))
set_option maxHeartbeats 4000000 in
set_option maxRecDepth 100000 in
theorem c_X11_send (l : Launch) (g : GD) (M : MM) (x : Int32) (y : Int32) (r : Int32) (M2 : MM) (h : f_X11_send M x y = some (r, M2)) : Met l yX11_send (wm yX11_send cX11_send 4 (some .int)) (RM 3 67) (va_Pc [rf g (1697), .int (x), .int (y)] (WDp g M)) (QQ g (fun v w0 => v = .int r ∧ M2 = w0)) 0 0 (AA g) := by
  refine mkM (by decide +kernel) (Nat.le_of_ble_eq_true rfl) ?_
  intro p e s m below meth c C hr hlk hW hS ls hl
  have hl : lv_has ls 4 [(0, rf g (1697)), (1, .int (x)), (2, .int (y))] := hl
  have hx := C.1
  have hb := C.2.1
  have hts := C.2.2.2.2.1
  unfold f_X11_send at h
  refine lv_aload_n hx hb dX11_send_0 rfl (lv_at hl 0 rfl) ?_
  refine lv_iload_n hx hb dX11_send_1 rfl (lv_at hl 1 rfl) ?_
  obtain ⟨r1, M2, h3, h⟩ := bind2 h
  refine cBack C.2.2.2.2.2.2.2.2 (runV (As := [.int (x)]) (rest := []) C hW hS (c_X11_isBell l g M x _ _ h3) kV_X11_isBell ml_X11_138 (by decide) tm_Model rfl rfl rfl hl.1 rfl (Nat.le_of_ble_eq_true rfl) ⟨Nat.le_of_ble_eq_true rfl, Nat.le_of_ble_eq_true rfl⟩ ⟨Nat.zero_le _, Nat.zero_le _⟩ dX11_send_2) hS (fun v0 w0 H locs hp hW hS => ?_)
  obtain ⟨rfl, rfl, zr1⟩ := hp
  refine lv_if_eq (tgt := 16) hx hb dX11_send_5 (by decide) (fun c4 => ?_) (fun c4 => ?_)
  · rw [if_pos c4] at h
    refine lv_iconst (v := -1) hx hb dX11_send_16 (by decide) ?_
    cases h
    exact rI C hr hlk dX11_send_17 hW hS ⟨rfl, rfl⟩
  · rw [if_neg c4] at h
    refine lv_aload_n hx hb dX11_send_8 rfl (lv_at hl 0 rfl) ?_
    refine lv_iload_n hx hb dX11_send_9 rfl (lv_at hl 2 rfl) ?_
    obtain ⟨r5, M6, h7, h⟩ := bind2 h
    refine cBack C.2.2.2.2.2.2.2.2 (runV (As := [.int (y)]) (rest := []) C hW hS (c_X11_isOrder l g M2 y _ _ h7) kV_X11_isOrder ml_X11_157 (by decide) tm_Model rfl rfl rfl hl.1 rfl (Nat.le_of_ble_eq_true rfl) ⟨Nat.le_of_ble_eq_true rfl, Nat.le_of_ble_eq_true rfl⟩ ⟨Nat.zero_le _, Nat.zero_le _⟩ dX11_send_10) hS (fun v0 w0 H locs hp hW hS => ?_)
    obtain ⟨rfl, rfl, zr5⟩ := hp
    refine lv_if_ne (tgt := 18) hx hb dX11_send_13 (by decide) (fun c8 => ?_) (fun c8 => ?_)
    · rw [if_neg c8] at h
      refine lv_aload_n hx hb dX11_send_18 rfl (lv_at hl 0 rfl) ?_
      refine lv_iload_n hx hb dX11_send_19 rfl (lv_at hl 1 rfl) ?_
      obtain ⟨r9, M10, h11, h⟩ := bind2 h
      refine cBack C.2.2.2.2.2.2.2.2 (runS (As := [.int (x)]) (rest := [rf g (1697)]) C hW hS (c_X11_atBell l g M6 x _ _ h11) kS_X11_atBell ml_X11_129 rfl hl.1 rfl (Nat.le_of_ble_eq_true rfl) ⟨Nat.le_of_ble_eq_true rfl, Nat.le_of_ble_eq_true rfl⟩ ⟨Nat.zero_le _, Nat.zero_le _⟩ dX11_send_20) hS (fun v0 w0 H locs hp hW hS => ?_)
      obtain ⟨rfl, rfl⟩ := hp
      obtain ⟨r12, M13, h14, h⟩ := bind2 h
      refine cBack C.2.2.2.2.2.2.2.2 (runV (As := [.int (r9)]) (rest := []) C hW hS (c_X11_weight l g M10 r9 _ _ h14) kV_X11_weight ml_X11_88 (by decide) tm_Model rfl rfl rfl hl.1 rfl (Nat.le_of_ble_eq_true rfl) ⟨Nat.le_of_ble_eq_true rfl, Nat.le_of_ble_eq_true rfl⟩ ⟨Nat.zero_le _, Nat.zero_le _⟩ dX11_send_23) hS (fun v0 w0 H locs hp hW hS => ?_)
      obtain ⟨rfl, rfl⟩ := hp
      refine lv_istore_n (lv' := [(3, .int (r12)), (0, rf g (1697)), (1, .int (x)), (2, .int (y))]) hx hb dX11_send_26 rfl hl (by decide) rfl (fun ls hl => ?_)
      refine lv_aload_n hx hb dX11_send_27 rfl (lv_at hl 1 rfl) ?_
      refine lv_iload_n hx hb dX11_send_28 rfl (lv_at hl 2 rfl) ?_
      refine lv_iload_n hx hb dX11_send_29 rfl (lv_at hl 3 rfl) ?_
      obtain ⟨r15, M16, h17, h⟩ := bind2 h
      refine cBack C.2.2.2.2.2.2.2.2 (runV (As := [.int (x), .int (y)]) (rest := []) C hW hS (c_X11_fits l g M13 x y _ _ h17) kV_X11_fits ml_X11_160 (by decide) tm_Model rfl rfl rfl hl.1 rfl (Nat.le_of_ble_eq_true rfl) ⟨Nat.le_of_ble_eq_true rfl, Nat.le_of_ble_eq_true rfl⟩ ⟨Nat.zero_le _, Nat.zero_le _⟩ dX11_send_30) hS (fun v0 w0 H locs hp hW hS => ?_)
      obtain ⟨rfl, rfl, zr15⟩ := hp
      refine lv_if_eq (tgt := 55) hx hb dX11_send_33 (by decide) (fun c18 => ?_) (fun c18 => ?_)
      · rw [if_pos c18] at h
        refine lv_bipush (v := -2) hx hb dX11_send_55 (by decide) ?_
        cases h
        exact rI C hr hlk dX11_send_57 hW hS ⟨rfl, rfl⟩
      · rw [if_neg c18] at h
        refine lv_aload_n hx hb dX11_send_36 rfl (lv_at hl 1 rfl) ?_
        refine lv_iload_n hx hb dX11_send_37 rfl (lv_at hl 3 rfl) ?_
        refine lv_iconst (v := 3) hx hb dX11_send_38 (by decide) ?_
        obtain ⟨r19, M20, h21, h⟩ := bind2 h
        refine cBack C.2.2.2.2.2.2.2.2 (runV (As := [.int (y), .int (3)]) (rest := []) C hW hS (c_X11_ofOrder l g M16 y 3 _ _ h21) kV_X11_ofOrder ml_X11_148 (by decide) tm_Model rfl rfl rfl hl.1 rfl (Nat.le_of_ble_eq_true rfl) ⟨Nat.le_of_ble_eq_true rfl, Nat.le_of_ble_eq_true rfl⟩ ⟨Nat.zero_le _, Nat.zero_le _⟩ dX11_send_39) hS (fun v0 w0 H locs hp hW hS => ?_)
        obtain ⟨rfl, rfl⟩ := hp
        refine lv_if_ne (tgt := 55) hx hb dX11_send_42 (by decide) (fun c22 => ?_) (fun c22 => ?_)
        · rw [if_neg c22] at h
          refine lv_bipush (v := -2) hx hb dX11_send_55 (by decide) ?_
          cases h
          exact rI C hr hlk dX11_send_57 hW hS ⟨rfl, rfl⟩
        · rw [if_pos c22] at h
          refine lv_iload_n hx hb dX11_send_45 rfl (lv_at hl 0 rfl) ?_
          refine lv_aload_n hx hb dX11_send_46 rfl (lv_at hl 1 rfl) ?_
          refine lv_bipush (v := 6) hx hb dX11_send_47 (by decide) ?_
          obtain ⟨r23, M24, h25, h⟩ := bind2 h
          refine cBack C.2.2.2.2.2.2.2.2 (runV (As := [.int (6)]) (rest := [.int (r12)]) C hW hS (c_X11_setting l g M20 6 _ _ h25) kV_X11_setting ml_X11_61 (by decide) tm_Model rfl rfl rfl hl.1 rfl (Nat.le_of_ble_eq_true rfl) ⟨Nat.le_of_ble_eq_true rfl, Nat.le_of_ble_eq_true rfl⟩ ⟨Nat.zero_le _, Nat.zero_le _⟩ dX11_send_49) hS (fun v0 w0 H locs hp hW hS => ?_)
          obtain ⟨rfl, rfl⟩ := hp
          refine lv_icmp_le (tgt := 58) hx hb dX11_send_52 (by decide) (fun c26 => ?_) (fun c26 => ?_)
          · rw [if_pos c26] at h
            refine lv_aload_n hx hb dX11_send_58 rfl (lv_at hl 1 rfl) ?_
            obtain ⟨r27, M28, h29, h⟩ := bind2 h
            refine cBackV C.2.2.2.2.2.2.2.2 (runV (As := []) (rest := []) C hW hS (c_X11_keeps l g M24  _ _ h29) kV_X11_keeps ml_X11_85 (by decide) tm_Model rfl rfl rfl hl.1 rfl (Nat.le_of_ble_eq_true rfl) ⟨Nat.le_of_ble_eq_true rfl, Nat.le_of_ble_eq_true rfl⟩ ⟨Nat.zero_le _, Nat.zero_le _⟩ dX11_send_59) hS (fun v0 H locs hp hW hS => ?_)
            subst hp
            refine lv_aload_n hx hb dX11_send_62 rfl (lv_at hl 1 rfl) ?_
            refine rGet (k := 0) C hW (by decide) tm_Model rfl inX11 (by decide) fl_X11_7 rfl dX11_send_63 ?_
            refine lv_iload_n hx hb dX11_send_66 rfl (lv_at hl 2 rfl) ?_
            obtain ⟨r30, M31, h32, h⟩ := bind2 h
            refine cBack C.2.2.2.2.2.2.2.2 (runS (As := [.int (x)]) (rest := [rf g (1698)]) C hW hS (c_X11_atBell l g M28 x _ _ h32) kS_X11_atBell ml_X11_129 rfl hl.1 rfl (Nat.le_of_ble_eq_true rfl) ⟨Nat.le_of_ble_eq_true rfl, Nat.le_of_ble_eq_true rfl⟩ ⟨Nat.zero_le _, Nat.zero_le _⟩ dX11_send_67) hS (fun v0 w0 H locs hp hW hS => ?_)
            obtain ⟨rfl, rfl⟩ := hp
            refine lv_bipush (v := 6) hx hb dX11_send_70 (by decide) ?_
            refine lv_iadd hx hb dX11_send_72 ?_
            refine lv_iconst (v := 2) hx hb dX11_send_73 (by decide) ?_
            have s33 : vin ((r30) + (6)) 1254 := Classical.byContradiction fun q9 => by rw [if_neg q9] at h; cases h
            rw [if_pos s33] at h
            refine rIst (M' := up2 M31 21 ((r30) + (6) : Int32).toNatClampNeg (2)) C hW hS (by decide) tm_s s33 (UPD_G (by decide) rfl (by rw [tm_s, up2_gr])) dX11_send_74 (fun H locs hW hS => ?_)
            have hW : Wd g (up2 M31 21 ((r30) + (6) : Int32).toNatClampNeg (2)) H := hW
            have h := letE h
            generalize up2 M31 21 ((r30) + (6) : Int32).toNatClampNeg (2) = M34 at hW h
            refine lv_aload_n hx hb dX11_send_75 rfl (lv_at hl 1 rfl) ?_
            refine rGet (k := 0) C hW (by decide) tm_Model rfl inX11 (by decide) fl_X11_7 rfl dX11_send_76 ?_
            refine lv_iload_n hx hb dX11_send_79 rfl (lv_at hl 2 rfl) ?_
            obtain ⟨r35, M36, h37, h⟩ := bind2 h
            refine cBack C.2.2.2.2.2.2.2.2 (runS (As := [.int (x)]) (rest := [rf g (1698)]) C hW hS (c_X11_atBell l g M34 x _ _ h37) kS_X11_atBell ml_X11_129 rfl hl.1 rfl (Nat.le_of_ble_eq_true rfl) ⟨Nat.le_of_ble_eq_true rfl, Nat.le_of_ble_eq_true rfl⟩ ⟨Nat.zero_le _, Nat.zero_le _⟩ dX11_send_80) hS (fun v0 w0 H locs hp hW hS => ?_)
            obtain ⟨rfl, rfl⟩ := hp
            refine lv_bipush (v := 7) hx hb dX11_send_83 (by decide) ?_
            refine lv_iadd hx hb dX11_send_85 ?_
            refine lv_iload_n hx hb dX11_send_86 rfl (lv_at hl 3 rfl) ?_
            have s38 : vin ((r35) + (7)) 1254 := Classical.byContradiction fun q9 => by rw [if_neg q9] at h; cases h
            rw [if_pos s38] at h
            refine rIst (M' := up2 M36 21 ((r35) + (7) : Int32).toNatClampNeg (y)) C hW hS (by decide) tm_s s38 (UPD_G (by decide) rfl (by rw [tm_s, up2_gr])) dX11_send_87 (fun H locs hW hS => ?_)
            have hW : Wd g (up2 M36 21 ((r35) + (7) : Int32).toNatClampNeg (y)) H := hW
            have h := letE h
            generalize up2 M36 21 ((r35) + (7) : Int32).toNatClampNeg (y) = M39 at hW h
            refine lv_aload_n hx hb dX11_send_88 rfl (lv_at hl 1 rfl) ?_
            refine rGet (k := 0) C hW (by decide) tm_Model rfl inX11 (by decide) fl_X11_7 rfl dX11_send_89 ?_
            refine lv_sipush (v := 854) hx hb dX11_send_92 (by decide) ?_
            refine lv_iconst (v := 4) hx hb dX11_send_95 (by decide) ?_
            refine lv_iload_n hx hb dX11_send_96 rfl (lv_at hl 3 rfl) ?_
            refine lv_imul hx hb dX11_send_97 ?_
            refine lv_iadd hx hb dX11_send_98 ?_
            refine lv_iconst (v := 3) hx hb dX11_send_99 (by decide) ?_
            refine lv_iadd hx hb dX11_send_100 ?_
            refine lv_iconst (v := 1) hx hb dX11_send_101 (by decide) ?_
            have s40 : vin (((854) + ((4) * (y))) + (3)) 1254 := Classical.byContradiction fun q9 => by rw [if_neg q9] at h; cases h
            rw [if_pos s40] at h
            refine rIst (M' := up2 M39 21 (((854) + ((4) * (y))) + (3) : Int32).toNatClampNeg (1)) C hW hS (by decide) tm_s s40 (UPD_G (by decide) rfl (by rw [tm_s, up2_gr])) dX11_send_102 (fun H locs hW hS => ?_)
            have hW : Wd g (up2 M39 21 (((854) + ((4) * (y))) + (3) : Int32).toNatClampNeg (1)) H := hW
            have h := letE h
            generalize up2 M39 21 (((854) + ((4) * (y))) + (3) : Int32).toNatClampNeg (1) = M41 at hW h
            refine lv_iload_n hx hb dX11_send_103 rfl (lv_at hl 0 rfl) ?_
            cases h
            exact rI C hr hlk dX11_send_104 hW hS ⟨rfl, rfl⟩
          · rw [if_neg c26] at h
            refine lv_bipush (v := -2) hx hb dX11_send_55 (by decide) ?_
            cases h
            exact rI C hr hlk dX11_send_57 hW hS ⟨rfl, rfl⟩
    · rw [if_pos c8] at h
      refine lv_iconst (v := -1) hx hb dX11_send_16 (by decide) ?_
      cases h
      exact rI C hr hlk dX11_send_17 hW hS ⟨rfl, rfl⟩
def lp_X11_orderOf_48 (fu : Nat) (M : MM)  (x : Int32) (y : Int32) (u : Int32) (v : Int32) (z : Int32) : Option (Int32 × MM) := match fu with
  | 0 => none
  | n + 1 => (if (z : Int32) < 0 then (if (y : Int32) = (4 : Int32) then some (u, M) else some (v, M)) else (bnd2 (f_X11_fits M z x) fun r1003 M1004 => (if (r1003 : Int32) = 0 then (bnd2 (f_X11_fits M1004 z x) fun r1007 M1008 => (if (r1007 : Int32) = 0 then (lp_X11_orderOf_48 n M1008   x y u ((v) + (0)) (z + (-1))) else (lp_X11_orderOf_48 n M1008   x y u ((v) + (1)) (z + (-1))))) else (bnd2 (f_X11_fits M1004 z x) fun r1011 M1012 => (if (r1011 : Int32) = 0 then (lp_X11_orderOf_48 n M1012   x y z ((v) + (0)) (z + (-1))) else (lp_X11_orderOf_48 n M1012   x y z ((v) + (1)) (z + (-1))))))))
def f_X11_orderOf (M : MM) (x : Int32) (y : Int32) : Option (Int32 × MM) := (bnd2 (f_X11_isOrder M x) fun r1 M2 => (if (r1 : Int32) = 0 then some (-1, M2) else (bnd2 (f_X11_in M2 y 0 5) fun r5 M6 => (if (r5 : Int32) = 0 then some (-1, M6) else (if (4 : Int32) ≤ (y : Int32) then (if vin (52) 1254 then (lp_X11_orderOf_48 FU M6   x y (-4) 0 ((M6 21 (52 : Int32).toNatClampNeg) - (1))) else none) else (bnd2 (f_X11_ofOrder M6 x y) fun r11 M12 => some (r11, M12)))))))
set_option maxHeartbeats 4000000 in
set_option maxRecDepth 100000 in
theorem t_X11_orderOf_48 (l : Launch) (g : GD) {p : Program} {e : Env} {s : State} {m : MethodId} {av : Array Value} {below : List Frame} {meth : Method} {c : Code}  (n : Nat) : ∀ (M : MM) (x : Int32) (y : Int32) (u : Int32) (v : Int32) (z : Int32) (r : Int32) (M2 : MM), lp_X11_orderOf_48 n M   x y u v z = some (r, M2) → CX p s m av c cX11_orderOf 6 RX11 g → meth.sig.returnType = (some .int) → meth.locks = false → ∀ (H : Heap) (locs : List Loc), Wd g M H → sS g s H locs → ∀ ls : Array Slot, lv_has ls 6 [(0, rf g (1697)), (1, .int (x)), (2, .int (y)), (3, .int (u)), (4, .int (v)), (5, .int (z))] → W p l e (RM 3 67) s m av below meth c H locs 0 0 (MQ below (QQ g (fun v w0 => v = .int r ∧ M2 = w0)) av s 0 0 (AA g)) (F0 m 48 ls []) := by
  induction n with
  | zero => intro M x y u v z r M2 h; cases h
  | succ n ih0 =>
    intro M x y u v z r M2 h C hr hlk H locs hW hS ls hl
    have ih : ∀ (M : MM) (x : Int32) (y : Int32) (u : Int32) (v : Int32) (z : Int32), lp_X11_orderOf_48 n M   x y u v z = some (r, M2) → ∀ (H : Heap) (locs : List Loc), Wd g M H → sS g s H locs → ∀ ls : Array Slot, lv_has ls 6 [(0, rf g (1697)), (1, .int (x)), (2, .int (y)), (3, .int (u)), (4, .int (v)), (5, .int (z))] → W p l e (RM 3 67) s m av below meth c H locs 0 0 (MQ below (QQ g (fun v w0 => v = .int r ∧ M2 = w0)) av s 0 0 (AA g)) (F0 m 48 ls []) := fun M x y u v z h H locs hW hS ls hl => ih0 M x y u v z r M2 h C hr hlk H locs hW hS ls hl
    unfold lp_X11_orderOf_48 at h
    try dsimp only at h
    have hx := C.1
    have hb := C.2.1
    have hts := C.2.2.2.2.1
    refine lv_iload hx hb dX11_orderOf_48 (lv_at hl 5 rfl) ?_
    refine lv_if_lt (tgt := 96) hx hb dX11_orderOf_50 (by decide) (fun c1001 => ?_) (fun c1001 => ?_)
    · rw [if_pos c1001] at h
      refine lv_iload_n hx hb dX11_orderOf_96 rfl (lv_at hl 2 rfl) ?_
      refine lv_iconst (v := 4) hx hb dX11_orderOf_97 (by decide) ?_
      refine lv_icmp_ne (tgt := 105) hx hb dX11_orderOf_98 (by decide) (fun c1002 => ?_) (fun c1002 => ?_)
      · rw [if_neg c1002] at h
        refine lv_iload hx hb dX11_orderOf_105 (lv_at hl 4 rfl) ?_
        cases h
        exact rI C hr hlk dX11_orderOf_107 hW hS ⟨rfl, rfl⟩
      · rw [if_pos c1002] at h
        refine lv_iload_n hx hb dX11_orderOf_101 rfl (lv_at hl 3 rfl) ?_
        refine lv_goto (tgt := 107) hx hb dX11_orderOf_102 (by decide) ?_
        cases h
        exact rI C hr hlk dX11_orderOf_107 hW hS ⟨rfl, rfl⟩
    · rw [if_neg c1001] at h
      refine lv_aload_n hx hb dX11_orderOf_53 rfl (lv_at hl 0 rfl) ?_
      refine lv_iload hx hb dX11_orderOf_54 (lv_at hl 5 rfl) ?_
      refine lv_iload_n hx hb dX11_orderOf_56 rfl (lv_at hl 1 rfl) ?_
      obtain ⟨r1003, M1004, h1005, h⟩ := bind2 h
      refine cBack C.2.2.2.2.2.2.2.2 (runV (As := [.int (z), .int (x)]) (rest := []) C hW hS (c_X11_fits l g M z x _ _ h1005) kV_X11_fits ml_X11_160 (by decide) tm_Model rfl rfl rfl hl.1 rfl (Nat.le_of_ble_eq_true rfl) ⟨Nat.le_of_ble_eq_true rfl, Nat.le_of_ble_eq_true rfl⟩ ⟨Nat.zero_le _, Nat.zero_le _⟩ dX11_orderOf_57) hS (fun v0 w0 H locs hp hW hS => ?_)
      obtain ⟨rfl, rfl, zr1003⟩ := hp
      refine lv_if_eq (tgt := 68) hx hb dX11_orderOf_60 (by decide) (fun c1006 => ?_) (fun c1006 => ?_)
      · rw [if_pos c1006] at h
        refine lv_iload_n hx hb dX11_orderOf_68 rfl (lv_at hl 3 rfl) ?_
        refine lv_istore_n (lv' := [(3, .int (u)), (0, rf g (1697)), (1, .int (x)), (2, .int (y)), (4, .int (v)), (5, .int (z))]) hx hb dX11_orderOf_69 rfl hl (by decide) rfl (fun ls hl => ?_)
        refine lv_iload hx hb dX11_orderOf_70 (lv_at hl 4 rfl) ?_
        refine lv_aload_n hx hb dX11_orderOf_72 rfl (lv_at hl 1 rfl) ?_
        refine lv_iload hx hb dX11_orderOf_73 (lv_at hl 5 rfl) ?_
        refine lv_iload_n hx hb dX11_orderOf_75 rfl (lv_at hl 2 rfl) ?_
        obtain ⟨r1007, M1008, h1009, h⟩ := bind2 h
        refine cBack C.2.2.2.2.2.2.2.2 (runV (As := [.int (z), .int (x)]) (rest := [.int (v)]) C hW hS (c_X11_fits l g M1004 z x _ _ h1009) kV_X11_fits ml_X11_160 (by decide) tm_Model rfl rfl rfl hl.1 rfl (Nat.le_of_ble_eq_true rfl) ⟨Nat.le_of_ble_eq_true rfl, Nat.le_of_ble_eq_true rfl⟩ ⟨Nat.zero_le _, Nat.zero_le _⟩ dX11_orderOf_76) hS (fun v0 w0 H locs hp hW hS => ?_)
        obtain ⟨rfl, rfl, zr1007⟩ := hp
        refine lv_if_eq (tgt := 86) hx hb dX11_orderOf_79 (by decide) (fun c1010 => ?_) (fun c1010 => ?_)
        · rw [if_pos c1010] at h
          refine lv_iconst (v := 0) hx hb dX11_orderOf_86 (by decide) ?_
          refine lv_iadd hx hb dX11_orderOf_87 ?_
          refine lv_istore (lv' := [(4, .int ((v) + (0))), (3, .int (u)), (0, rf g (1697)), (1, .int (x)), (2, .int (y)), (5, .int (z))]) hx hb dX11_orderOf_88 hl (by decide) rfl (fun ls hl => ?_)
          refine lv_iinc (v := z + (-1)) (lv' := [(5, .int (z + (-1))), (4, .int ((v) + (0))), (3, .int (u)), (0, rf g (1697)), (1, .int (x)), (2, .int (y))]) hx hb dX11_orderOf_90 hl (k := 5) rfl rfl (by decide) rfl (fun ls hl => ?_)
          refine lv_goto (tgt := 48) hx hb dX11_orderOf_93 (by decide) ?_
          exact ih M1008 x y u ((v) + (0)) (z + (-1)) h _ _ hW hS ls (lv_sub hl [3, 4, 5, 2, 1, 0] rfl)
        · rw [if_neg c1010] at h
          refine lv_iconst (v := 1) hx hb dX11_orderOf_82 (by decide) ?_
          refine lv_goto (tgt := 87) hx hb dX11_orderOf_83 (by decide) ?_
          refine lv_iadd hx hb dX11_orderOf_87 ?_
          refine lv_istore (lv' := [(4, .int ((v) + (1))), (3, .int (u)), (0, rf g (1697)), (1, .int (x)), (2, .int (y)), (5, .int (z))]) hx hb dX11_orderOf_88 hl (by decide) rfl (fun ls hl => ?_)
          refine lv_iinc (v := z + (-1)) (lv' := [(5, .int (z + (-1))), (4, .int ((v) + (1))), (3, .int (u)), (0, rf g (1697)), (1, .int (x)), (2, .int (y))]) hx hb dX11_orderOf_90 hl (k := 5) rfl rfl (by decide) rfl (fun ls hl => ?_)
          refine lv_goto (tgt := 48) hx hb dX11_orderOf_93 (by decide) ?_
          exact ih M1008 x y u ((v) + (1)) (z + (-1)) h _ _ hW hS ls (lv_sub hl [3, 4, 5, 2, 1, 0] rfl)
      · rw [if_neg c1006] at h
        refine lv_iload hx hb dX11_orderOf_63 (lv_at hl 5 rfl) ?_
        refine lv_goto (tgt := 69) hx hb dX11_orderOf_65 (by decide) ?_
        refine lv_istore_n (lv' := [(3, .int (z)), (0, rf g (1697)), (1, .int (x)), (2, .int (y)), (4, .int (v)), (5, .int (z))]) hx hb dX11_orderOf_69 rfl hl (by decide) rfl (fun ls hl => ?_)
        refine lv_iload hx hb dX11_orderOf_70 (lv_at hl 4 rfl) ?_
        refine lv_aload_n hx hb dX11_orderOf_72 rfl (lv_at hl 1 rfl) ?_
        refine lv_iload hx hb dX11_orderOf_73 (lv_at hl 5 rfl) ?_
        refine lv_iload_n hx hb dX11_orderOf_75 rfl (lv_at hl 2 rfl) ?_
        obtain ⟨r1011, M1012, h1013, h⟩ := bind2 h
        refine cBack C.2.2.2.2.2.2.2.2 (runV (As := [.int (z), .int (x)]) (rest := [.int (v)]) C hW hS (c_X11_fits l g M1004 z x _ _ h1013) kV_X11_fits ml_X11_160 (by decide) tm_Model rfl rfl rfl hl.1 rfl (Nat.le_of_ble_eq_true rfl) ⟨Nat.le_of_ble_eq_true rfl, Nat.le_of_ble_eq_true rfl⟩ ⟨Nat.zero_le _, Nat.zero_le _⟩ dX11_orderOf_76) hS (fun v0 w0 H locs hp hW hS => ?_)
        obtain ⟨rfl, rfl, zr1011⟩ := hp
        refine lv_if_eq (tgt := 86) hx hb dX11_orderOf_79 (by decide) (fun c1014 => ?_) (fun c1014 => ?_)
        · rw [if_pos c1014] at h
          refine lv_iconst (v := 0) hx hb dX11_orderOf_86 (by decide) ?_
          refine lv_iadd hx hb dX11_orderOf_87 ?_
          refine lv_istore (lv' := [(4, .int ((v) + (0))), (3, .int (z)), (0, rf g (1697)), (1, .int (x)), (2, .int (y)), (5, .int (z))]) hx hb dX11_orderOf_88 hl (by decide) rfl (fun ls hl => ?_)
          refine lv_iinc (v := z + (-1)) (lv' := [(5, .int (z + (-1))), (4, .int ((v) + (0))), (3, .int (z)), (0, rf g (1697)), (1, .int (x)), (2, .int (y))]) hx hb dX11_orderOf_90 hl (k := 5) rfl rfl (by decide) rfl (fun ls hl => ?_)
          refine lv_goto (tgt := 48) hx hb dX11_orderOf_93 (by decide) ?_
          exact ih M1012 x y z ((v) + (0)) (z + (-1)) h _ _ hW hS ls (lv_sub hl [3, 4, 5, 2, 1, 0] rfl)
        · rw [if_neg c1014] at h
          refine lv_iconst (v := 1) hx hb dX11_orderOf_82 (by decide) ?_
          refine lv_goto (tgt := 87) hx hb dX11_orderOf_83 (by decide) ?_
          refine lv_iadd hx hb dX11_orderOf_87 ?_
          refine lv_istore (lv' := [(4, .int ((v) + (1))), (3, .int (z)), (0, rf g (1697)), (1, .int (x)), (2, .int (y)), (5, .int (z))]) hx hb dX11_orderOf_88 hl (by decide) rfl (fun ls hl => ?_)
          refine lv_iinc (v := z + (-1)) (lv' := [(5, .int (z + (-1))), (4, .int ((v) + (1))), (3, .int (z)), (0, rf g (1697)), (1, .int (x)), (2, .int (y))]) hx hb dX11_orderOf_90 hl (k := 5) rfl rfl (by decide) rfl (fun ls hl => ?_)
          refine lv_goto (tgt := 48) hx hb dX11_orderOf_93 (by decide) ?_
          exact ih M1012 x y z ((v) + (1)) (z + (-1)) h _ _ hW hS ls (lv_sub hl [3, 4, 5, 2, 1, 0] rfl)
set_option maxHeartbeats 4000000 in
set_option maxRecDepth 100000 in
theorem c_X11_orderOf (l : Launch) (g : GD) (M : MM) (x : Int32) (y : Int32) (r : Int32) (M2 : MM) (h : f_X11_orderOf M x y = some (r, M2)) : Met l yX11_orderOf (wm yX11_orderOf cX11_orderOf 6 (some .int)) (RM 3 67) (va_Pc [rf g (1697), .int (x), .int (y)] (WDp g M)) (QQ g (fun v w0 => v = .int r ∧ M2 = w0)) 0 0 (AA g) := by
  refine mkM (by decide +kernel) (Nat.le_of_ble_eq_true rfl) ?_
  intro p e s m below meth c C hr hlk hW hS ls hl
  have hl : lv_has ls 6 [(0, rf g (1697)), (1, .int (x)), (2, .int (y))] := hl
  have hx := C.1
  have hb := C.2.1
  have hts := C.2.2.2.2.1
  unfold f_X11_orderOf at h
  refine lv_aload_n hx hb dX11_orderOf_0 rfl (lv_at hl 0 rfl) ?_
  refine lv_iload_n hx hb dX11_orderOf_1 rfl (lv_at hl 1 rfl) ?_
  obtain ⟨r1, M2, h3, h⟩ := bind2 h
  refine cBack C.2.2.2.2.2.2.2.2 (runV (As := [.int (x)]) (rest := []) C hW hS (c_X11_isOrder l g M x _ _ h3) kV_X11_isOrder ml_X11_157 (by decide) tm_Model rfl rfl rfl hl.1 rfl (Nat.le_of_ble_eq_true rfl) ⟨Nat.le_of_ble_eq_true rfl, Nat.le_of_ble_eq_true rfl⟩ ⟨Nat.zero_le _, Nat.zero_le _⟩ dX11_orderOf_2) hS (fun v0 w0 H locs hp hW hS => ?_)
  obtain ⟨rfl, rfl, zr1⟩ := hp
  refine lv_if_eq (tgt := 17) hx hb dX11_orderOf_5 (by decide) (fun c4 => ?_) (fun c4 => ?_)
  · rw [if_pos c4] at h
    refine lv_iconst (v := -1) hx hb dX11_orderOf_17 (by decide) ?_
    cases h
    exact rI C hr hlk dX11_orderOf_18 hW hS ⟨rfl, rfl⟩
  · rw [if_neg c4] at h
    refine lv_iload_n hx hb dX11_orderOf_8 rfl (lv_at hl 2 rfl) ?_
    refine lv_iconst (v := 0) hx hb dX11_orderOf_9 (by decide) ?_
    refine lv_iconst (v := 5) hx hb dX11_orderOf_10 (by decide) ?_
    obtain ⟨r5, M6, h7, h⟩ := bind2 h
    refine cBack C.2.2.2.2.2.2.2.2 (runS (As := [.int (y), .int (0), .int (5)]) (rest := []) C hW hS (c_X11_in l g M2 y 0 5 _ _ h7) kS_X11_in ml_X11_68 rfl hl.1 rfl (Nat.le_of_ble_eq_true rfl) ⟨Nat.le_of_ble_eq_true rfl, Nat.le_of_ble_eq_true rfl⟩ ⟨Nat.zero_le _, Nat.zero_le _⟩ dX11_orderOf_11) hS (fun v0 w0 H locs hp hW hS => ?_)
    obtain ⟨rfl, rfl, zr5⟩ := hp
    refine lv_if_ne (tgt := 19) hx hb dX11_orderOf_14 (by decide) (fun c8 => ?_) (fun c8 => ?_)
    · rw [if_neg c8] at h
      refine lv_iload_n hx hb dX11_orderOf_19 rfl (lv_at hl 2 rfl) ?_
      refine lv_iconst (v := 4) hx hb dX11_orderOf_20 (by decide) ?_
      refine lv_icmp_ge (tgt := 31) hx hb dX11_orderOf_21 (by decide) (fun c9 => ?_) (fun c9 => ?_)
      · rw [if_pos c9] at h
        refine lv_bipush (v := -4) hx hb dX11_orderOf_31 (by decide) ?_
        refine lv_istore_n (lv' := [(3, .int (-4)), (0, rf g (1697)), (1, .int (x)), (2, .int (y))]) hx hb dX11_orderOf_33 rfl hl (by decide) rfl (fun ls hl => ?_)
        refine lv_iconst (v := 0) hx hb dX11_orderOf_34 (by decide) ?_
        refine lv_istore (lv' := [(4, .int (0)), (3, .int (-4)), (0, rf g (1697)), (1, .int (x)), (2, .int (y))]) hx hb dX11_orderOf_35 hl (by decide) rfl (fun ls hl => ?_)
        refine lv_aload_n hx hb dX11_orderOf_37 rfl (lv_at hl 2 rfl) ?_
        refine rGet (k := 0) C hW (by decide) tm_Model rfl inX11 (by decide) fl_X11_7 rfl dX11_orderOf_38 ?_
        refine lv_bipush (v := 52) hx hb dX11_orderOf_41 (by decide) ?_
        have s10 : vin (52) 1254 := Classical.byContradiction fun q9 => by rw [if_neg q9] at h; cases h
        rw [if_pos s10] at h
        refine rIld C hW (by decide) tm_s s10 dX11_orderOf_43 ?_
        refine lv_iconst (v := 1) hx hb dX11_orderOf_44 (by decide) ?_
        refine lv_isub hx hb dX11_orderOf_45 ?_
        refine lv_istore (lv' := [(5, .int ((M6 21 (52 : Int32).toNatClampNeg) - (1))), (4, .int (0)), (3, .int (-4)), (0, rf g (1697)), (1, .int (x)), (2, .int (y))]) hx hb dX11_orderOf_46 hl (by decide) rfl (fun ls hl => ?_)
        exact t_X11_orderOf_48 l g    FU M6 x y (-4) 0 ((M6 21 (52 : Int32).toNatClampNeg) - (1)) _ _ h C hr hlk _ _ hW hS ls (lv_sub hl [3, 4, 5, 2, 1, 0] rfl)
      · rw [if_neg c9] at h
        refine lv_aload_n hx hb dX11_orderOf_24 rfl (lv_at hl 0 rfl) ?_
        refine lv_iload_n hx hb dX11_orderOf_25 rfl (lv_at hl 1 rfl) ?_
        refine lv_iload_n hx hb dX11_orderOf_26 rfl (lv_at hl 2 rfl) ?_
        obtain ⟨r11, M12, h13, h⟩ := bind2 h
        refine cBack C.2.2.2.2.2.2.2.2 (runV (As := [.int (x), .int (y)]) (rest := []) C hW hS (c_X11_ofOrder l g M6 x y _ _ h13) kV_X11_ofOrder ml_X11_148 (by decide) tm_Model rfl rfl rfl hl.1 rfl (Nat.le_of_ble_eq_true rfl) ⟨Nat.le_of_ble_eq_true rfl, Nat.le_of_ble_eq_true rfl⟩ ⟨Nat.zero_le _, Nat.zero_le _⟩ dX11_orderOf_27) hS (fun v0 w0 H locs hp hW hS => ?_)
        obtain ⟨rfl, rfl⟩ := hp
        cases h
        exact rI C hr hlk dX11_orderOf_30 hW hS ⟨rfl, rfl⟩
    · rw [if_pos c8] at h
      refine lv_iconst (v := -1) hx hb dX11_orderOf_17 (by decide) ?_
      cases h
      exact rI C hr hlk dX11_orderOf_18 hW hS ⟨rfl, rfl⟩
def lp_X11_tuneFor_66 (fu : Nat) (M : MM)  (x : Int32) (y : Int32) (u : Int32) (z : Int32) : Option (Int32 × MM) := match fu with
  | 0 => none
  | n + 1 => (if (1000 : Int32) < (z : Int32) then some (-4, M) else (if (u : Int32) = 0 then some (-4, M) else (bnd2 (f_X11_atBell M x) fun r1003 M1004 => (bnd2 (f_X11_weight M1004 r1003) fun r1006 M1007 => (if (r1006 : Int32) ≤ (z : Int32) then (if (0 : Int32) = 0 then (lp_X11_tuneFor_66 n M1007   x y 0 (z + 1)) else none) else (bnd2 (f_X11_wouldCrack M1007 x z) fun r1011 M1012 => (if (r1011 : Int32) = 0 then (if (1 : Int32) = 0 then none else (bnd2 (f_X11_lowered M1012 x z) fun r1017 M1018 => (bnd2 (f_X11_isPitch M1018 r1017 y) fun r1020 M1021 => (if (r1020 : Int32) = 0 then (lp_X11_tuneFor_66 n M1021   x y 1 (z + 1)) else some (z, M1021))))) else (if (0 : Int32) = 0 then (lp_X11_tuneFor_66 n M1012   x y 0 (z + 1)) else none))))))))
def f_X11_tuneFor (M : MM) (x : Int32) (y : Int32) : Option (Int32 × MM) := (bnd2 (f_X11_isBell M x) fun r1 M2 => (if (r1 : Int32) = 0 then some (-1, M2) else (bnd2 (f_X11_isOrder M2 y) fun r5 M6 => (if (r5 : Int32) = 0 then some (-1, M6) else (bnd2 (f_X11_of M6 x 6) fun r9 M10 => (if (r9 : Int32) = 0 then (bnd2 (f_X11_fits M10 x y) fun r13 M14 => (if (r13 : Int32) = 0 then (bnd2 (f_X11_of M14 x 2) fun r17 M18 => (bnd2 (f_X11_ofOrder M18 y 0) fun r20 M21 => (if (r17 : Int32) = (r20 : Int32) then (lp_X11_tuneFor_66 FU M21   x y 1 1) else (lp_X11_tuneFor_66 FU M21   x y 0 1)))) else some (0, M14))) else some (-2, M10)))))))
set_option maxHeartbeats 4000000 in
set_option maxRecDepth 100000 in
theorem t_X11_tuneFor_66 (l : Launch) (g : GD) {p : Program} {e : Env} {s : State} {m : MethodId} {av : Array Value} {below : List Frame} {meth : Method} {c : Code}  (n : Nat) : ∀ (M : MM) (x : Int32) (y : Int32) (u : Int32) (z : Int32) (r : Int32) (M2 : MM), lp_X11_tuneFor_66 n M   x y u z = some (r, M2) → CX p s m av c cX11_tuneFor 5 RX11 g → meth.sig.returnType = (some .int) → meth.locks = false → ∀ (H : Heap) (locs : List Loc), Wd g M H → sS g s H locs → ∀ ls : Array Slot, lv_has ls 5 [(0, rf g (1697)), (1, .int (x)), (2, .int (y)), (3, .int (u)), (4, .int (z))] → W p l e (RM 3 67) s m av below meth c H locs 0 0 (MQ below (QQ g (fun v w0 => v = .int r ∧ M2 = w0)) av s 0 0 (AA g)) (F0 m 66 ls []) := by
  induction n with
  | zero => intro M x y u z r M2 h; cases h
  | succ n ih0 =>
    intro M x y u z r M2 h C hr hlk H locs hW hS ls hl
    have ih : ∀ (M : MM) (x : Int32) (y : Int32) (u : Int32) (z : Int32), lp_X11_tuneFor_66 n M   x y u z = some (r, M2) → ∀ (H : Heap) (locs : List Loc), Wd g M H → sS g s H locs → ∀ ls : Array Slot, lv_has ls 5 [(0, rf g (1697)), (1, .int (x)), (2, .int (y)), (3, .int (u)), (4, .int (z))] → W p l e (RM 3 67) s m av below meth c H locs 0 0 (MQ below (QQ g (fun v w0 => v = .int r ∧ M2 = w0)) av s 0 0 (AA g)) (F0 m 66 ls []) := fun M x y u z h H locs hW hS ls hl => ih0 M x y u z r M2 h C hr hlk H locs hW hS ls hl
    unfold lp_X11_tuneFor_66 at h
    try dsimp only at h
    have hx := C.1
    have hb := C.2.1
    have hts := C.2.2.2.2.1
    refine lv_iload hx hb dX11_tuneFor_66 (lv_at hl 4 rfl) ?_
    refine lv_sipush (v := 1000) hx hb dX11_tuneFor_68 (by decide) ?_
    refine lv_icmp_gt (tgt := 135) hx hb dX11_tuneFor_71 (by decide) (fun c1001 => ?_) (fun c1001 => ?_)
    · rw [if_pos c1001] at h
      refine lv_bipush (v := -4) hx hb dX11_tuneFor_135 (by decide) ?_
      cases h
      exact rI C hr hlk dX11_tuneFor_137 hW hS ⟨rfl, rfl⟩
    · rw [if_neg c1001] at h
      refine lv_iload_n hx hb dX11_tuneFor_74 rfl (lv_at hl 3 rfl) ?_
      refine lv_if_eq (tgt := 135) hx hb dX11_tuneFor_75 (by decide) (fun c1002 => ?_) (fun c1002 => ?_)
      · rw [if_pos c1002] at h
        refine lv_bipush (v := -4) hx hb dX11_tuneFor_135 (by decide) ?_
        cases h
        exact rI C hr hlk dX11_tuneFor_137 hW hS ⟨rfl, rfl⟩
      · rw [if_neg c1002] at h
        refine lv_iload hx hb dX11_tuneFor_78 (lv_at hl 4 rfl) ?_
        refine lv_aload_n hx hb dX11_tuneFor_80 rfl (lv_at hl 0 rfl) ?_
        refine lv_iload_n hx hb dX11_tuneFor_81 rfl (lv_at hl 1 rfl) ?_
        obtain ⟨r1003, M1004, h1005, h⟩ := bind2 h
        refine cBack C.2.2.2.2.2.2.2.2 (runS (As := [.int (x)]) (rest := [rf g (1697), .int (z)]) C hW hS (c_X11_atBell l g M x _ _ h1005) kS_X11_atBell ml_X11_129 rfl hl.1 rfl (Nat.le_of_ble_eq_true rfl) ⟨Nat.le_of_ble_eq_true rfl, Nat.le_of_ble_eq_true rfl⟩ ⟨Nat.zero_le _, Nat.zero_le _⟩ dX11_tuneFor_82) hS (fun v0 w0 H locs hp hW hS => ?_)
        obtain ⟨rfl, rfl⟩ := hp
        obtain ⟨r1006, M1007, h1008, h⟩ := bind2 h
        refine cBack C.2.2.2.2.2.2.2.2 (runV (As := [.int (r1003)]) (rest := [.int (z)]) C hW hS (c_X11_weight l g M1004 r1003 _ _ h1008) kV_X11_weight ml_X11_88 (by decide) tm_Model rfl rfl rfl hl.1 rfl (Nat.le_of_ble_eq_true rfl) ⟨Nat.le_of_ble_eq_true rfl, Nat.le_of_ble_eq_true rfl⟩ ⟨Nat.zero_le _, Nat.zero_le _⟩ dX11_tuneFor_85) hS (fun v0 w0 H locs hp hW hS => ?_)
        obtain ⟨rfl, rfl⟩ := hp
        refine lv_icmp_ge (tgt := 105) hx hb dX11_tuneFor_88 (by decide) (fun c1009 => ?_) (fun c1009 => ?_)
        · rw [if_pos c1009] at h
          refine lv_iconst (v := 0) hx hb dX11_tuneFor_105 (by decide) ?_
          refine lv_istore_n (lv' := [(3, .int (0)), (0, rf g (1697)), (1, .int (x)), (2, .int (y)), (4, .int (z))]) hx hb dX11_tuneFor_106 rfl hl (by decide) rfl (fun ls hl => ?_)
          refine lv_iload_n hx hb dX11_tuneFor_107 rfl (lv_at hl 0 rfl) ?_
          refine lv_if_eq (tgt := 129) hx hb dX11_tuneFor_108 (by decide) (fun c1010 => ?_) (fun c1010 => ?_)
          · rw [if_pos c1010] at h
            refine lv_iinc (v := z + 1) (lv' := [(4, .int (z + 1)), (3, .int (0)), (0, rf g (1697)), (1, .int (x)), (2, .int (y))]) hx hb dX11_tuneFor_129 hl (k := 4) rfl rfl (by decide) rfl (fun ls hl => ?_)
            refine lv_goto (tgt := 66) hx hb dX11_tuneFor_132 (by decide) ?_
            exact ih M1007 x y 0 (z + 1) h _ _ hW hS ls (lv_sub hl [2, 3, 4, 1, 0] rfl)
          · rw [if_neg c1010] at h
            cases h
        · rw [if_neg c1009] at h
          refine lv_aload_n hx hb dX11_tuneFor_91 rfl (lv_at hl 0 rfl) ?_
          refine lv_iload_n hx hb dX11_tuneFor_92 rfl (lv_at hl 1 rfl) ?_
          refine lv_iload hx hb dX11_tuneFor_93 (lv_at hl 4 rfl) ?_
          obtain ⟨r1011, M1012, h1013, h⟩ := bind2 h
          refine cBack C.2.2.2.2.2.2.2.2 (runV (As := [.int (x), .int (z)]) (rest := []) C hW hS (c_X11_wouldCrack l g M1007 x z _ _ h1013) kV_X11_wouldCrack ml_X11_144 (by decide) tm_Model rfl rfl rfl hl.1 rfl (Nat.le_of_ble_eq_true rfl) ⟨Nat.le_of_ble_eq_true rfl, Nat.le_of_ble_eq_true rfl⟩ ⟨Nat.zero_le _, Nat.zero_le _⟩ dX11_tuneFor_95) hS (fun v0 w0 H locs hp hW hS => ?_)
          obtain ⟨rfl, rfl, zr1011⟩ := hp
          refine lv_if_ne (tgt := 105) hx hb dX11_tuneFor_98 (by decide) (fun c1014 => ?_) (fun c1014 => ?_)
          · rw [if_neg c1014] at h
            refine lv_iconst (v := 0) hx hb dX11_tuneFor_105 (by decide) ?_
            refine lv_istore_n (lv' := [(3, .int (0)), (0, rf g (1697)), (1, .int (x)), (2, .int (y)), (4, .int (z))]) hx hb dX11_tuneFor_106 rfl hl (by decide) rfl (fun ls hl => ?_)
            refine lv_iload_n hx hb dX11_tuneFor_107 rfl (lv_at hl 0 rfl) ?_
            refine lv_if_eq (tgt := 129) hx hb dX11_tuneFor_108 (by decide) (fun c1015 => ?_) (fun c1015 => ?_)
            · rw [if_pos c1015] at h
              refine lv_iinc (v := z + 1) (lv' := [(4, .int (z + 1)), (3, .int (0)), (0, rf g (1697)), (1, .int (x)), (2, .int (y))]) hx hb dX11_tuneFor_129 hl (k := 4) rfl rfl (by decide) rfl (fun ls hl => ?_)
              refine lv_goto (tgt := 66) hx hb dX11_tuneFor_132 (by decide) ?_
              exact ih M1012 x y 0 (z + 1) h _ _ hW hS ls (lv_sub hl [2, 3, 4, 1, 0] rfl)
            · rw [if_neg c1015] at h
              cases h
          · rw [if_pos c1014] at h
            refine lv_iconst (v := 1) hx hb dX11_tuneFor_101 (by decide) ?_
            refine lv_goto (tgt := 106) hx hb dX11_tuneFor_102 (by decide) ?_
            refine lv_istore_n (lv' := [(3, .int (1)), (0, rf g (1697)), (1, .int (x)), (2, .int (y)), (4, .int (z))]) hx hb dX11_tuneFor_106 rfl hl (by decide) rfl (fun ls hl => ?_)
            refine lv_iload_n hx hb dX11_tuneFor_107 rfl (lv_at hl 0 rfl) ?_
            refine lv_if_eq (tgt := 129) hx hb dX11_tuneFor_108 (by decide) (fun c1016 => ?_) (fun c1016 => ?_)
            · rw [if_pos c1016] at h
              cases h
            · rw [if_neg c1016] at h
              refine lv_aload_n hx hb dX11_tuneFor_111 rfl (lv_at hl 1 rfl) ?_
              refine lv_aload_n hx hb dX11_tuneFor_112 rfl (lv_at hl 1 rfl) ?_
              refine lv_iload_n hx hb dX11_tuneFor_113 rfl (lv_at hl 2 rfl) ?_
              refine lv_iload hx hb dX11_tuneFor_114 (lv_at hl 4 rfl) ?_
              obtain ⟨r1017, M1018, h1019, h⟩ := bind2 h
              refine cBack C.2.2.2.2.2.2.2.2 (runV (As := [.int (x), .int (z)]) (rest := [rf g (1697)]) C hW hS (c_X11_lowered l g M1012 x z _ _ h1019) kV_X11_lowered ml_X11_141 (by decide) tm_Model rfl rfl rfl hl.1 rfl (Nat.le_of_ble_eq_true rfl) ⟨Nat.le_of_ble_eq_true rfl, Nat.le_of_ble_eq_true rfl⟩ ⟨Nat.zero_le _, Nat.zero_le _⟩ dX11_tuneFor_116) hS (fun v0 w0 H locs hp hW hS => ?_)
              obtain ⟨rfl, rfl⟩ := hp
              refine lv_iload_n hx hb dX11_tuneFor_119 rfl (lv_at hl 3 rfl) ?_
              obtain ⟨r1020, M1021, h1022, h⟩ := bind2 h
              refine cBack C.2.2.2.2.2.2.2.2 (runV (As := [.int (r1017), .int (y)]) (rest := []) C hW hS (c_X11_isPitch l g M1018 r1017 y _ _ h1022) kV_X11_isPitch ml_X11_151 (by decide) tm_Model rfl rfl rfl hl.1 rfl (Nat.le_of_ble_eq_true rfl) ⟨Nat.le_of_ble_eq_true rfl, Nat.le_of_ble_eq_true rfl⟩ ⟨Nat.zero_le _, Nat.zero_le _⟩ dX11_tuneFor_120) hS (fun v0 w0 H locs hp hW hS => ?_)
              obtain ⟨rfl, rfl, zr1020⟩ := hp
              refine lv_if_eq (tgt := 129) hx hb dX11_tuneFor_123 (by decide) (fun c1023 => ?_) (fun c1023 => ?_)
              · rw [if_pos c1023] at h
                refine lv_iinc (v := z + 1) (lv' := [(4, .int (z + 1)), (3, .int (1)), (0, rf g (1697)), (1, .int (x)), (2, .int (y))]) hx hb dX11_tuneFor_129 hl (k := 4) rfl rfl (by decide) rfl (fun ls hl => ?_)
                refine lv_goto (tgt := 66) hx hb dX11_tuneFor_132 (by decide) ?_
                exact ih M1021 x y 1 (z + 1) h _ _ hW hS ls (lv_sub hl [2, 3, 4, 1, 0] rfl)
              · rw [if_neg c1023] at h
                refine lv_iload hx hb dX11_tuneFor_126 (lv_at hl 4 rfl) ?_
                cases h
                exact rI C hr hlk dX11_tuneFor_128 hW hS ⟨rfl, rfl⟩
set_option maxHeartbeats 4000000 in
set_option maxRecDepth 100000 in
theorem c_X11_tuneFor (l : Launch) (g : GD) (M : MM) (x : Int32) (y : Int32) (r : Int32) (M2 : MM) (h : f_X11_tuneFor M x y = some (r, M2)) : Met l yX11_tuneFor (wm yX11_tuneFor cX11_tuneFor 5 (some .int)) (RM 3 67) (va_Pc [rf g (1697), .int (x), .int (y)] (WDp g M)) (QQ g (fun v w0 => v = .int r ∧ M2 = w0)) 0 0 (AA g) := by
  refine mkM (by decide +kernel) (Nat.le_of_ble_eq_true rfl) ?_
  intro p e s m below meth c C hr hlk hW hS ls hl
  have hl : lv_has ls 5 [(0, rf g (1697)), (1, .int (x)), (2, .int (y))] := hl
  have hx := C.1
  have hb := C.2.1
  have hts := C.2.2.2.2.1
  unfold f_X11_tuneFor at h
  refine lv_aload_n hx hb dX11_tuneFor_0 rfl (lv_at hl 0 rfl) ?_
  refine lv_iload_n hx hb dX11_tuneFor_1 rfl (lv_at hl 1 rfl) ?_
  obtain ⟨r1, M2, h3, h⟩ := bind2 h
  refine cBack C.2.2.2.2.2.2.2.2 (runV (As := [.int (x)]) (rest := []) C hW hS (c_X11_isBell l g M x _ _ h3) kV_X11_isBell ml_X11_138 (by decide) tm_Model rfl rfl rfl hl.1 rfl (Nat.le_of_ble_eq_true rfl) ⟨Nat.le_of_ble_eq_true rfl, Nat.le_of_ble_eq_true rfl⟩ ⟨Nat.zero_le _, Nat.zero_le _⟩ dX11_tuneFor_2) hS (fun v0 w0 H locs hp hW hS => ?_)
  obtain ⟨rfl, rfl, zr1⟩ := hp
  refine lv_if_eq (tgt := 16) hx hb dX11_tuneFor_5 (by decide) (fun c4 => ?_) (fun c4 => ?_)
  · rw [if_pos c4] at h
    refine lv_iconst (v := -1) hx hb dX11_tuneFor_16 (by decide) ?_
    cases h
    exact rI C hr hlk dX11_tuneFor_17 hW hS ⟨rfl, rfl⟩
  · rw [if_neg c4] at h
    refine lv_aload_n hx hb dX11_tuneFor_8 rfl (lv_at hl 0 rfl) ?_
    refine lv_iload_n hx hb dX11_tuneFor_9 rfl (lv_at hl 2 rfl) ?_
    obtain ⟨r5, M6, h7, h⟩ := bind2 h
    refine cBack C.2.2.2.2.2.2.2.2 (runV (As := [.int (y)]) (rest := []) C hW hS (c_X11_isOrder l g M2 y _ _ h7) kV_X11_isOrder ml_X11_157 (by decide) tm_Model rfl rfl rfl hl.1 rfl (Nat.le_of_ble_eq_true rfl) ⟨Nat.le_of_ble_eq_true rfl, Nat.le_of_ble_eq_true rfl⟩ ⟨Nat.zero_le _, Nat.zero_le _⟩ dX11_tuneFor_10) hS (fun v0 w0 H locs hp hW hS => ?_)
    obtain ⟨rfl, rfl, zr5⟩ := hp
    refine lv_if_ne (tgt := 18) hx hb dX11_tuneFor_13 (by decide) (fun c8 => ?_) (fun c8 => ?_)
    · rw [if_neg c8] at h
      refine lv_aload_n hx hb dX11_tuneFor_18 rfl (lv_at hl 0 rfl) ?_
      refine lv_iload_n hx hb dX11_tuneFor_19 rfl (lv_at hl 1 rfl) ?_
      refine lv_bipush (v := 6) hx hb dX11_tuneFor_20 (by decide) ?_
      obtain ⟨r9, M10, h11, h⟩ := bind2 h
      refine cBack C.2.2.2.2.2.2.2.2 (runV (As := [.int (x), .int (6)]) (rest := []) C hW hS (c_X11_of l g M6 x 6 _ _ h11) kV_X11_of ml_X11_104 (by decide) tm_Model rfl rfl rfl hl.1 rfl (Nat.le_of_ble_eq_true rfl) ⟨Nat.le_of_ble_eq_true rfl, Nat.le_of_ble_eq_true rfl⟩ ⟨Nat.zero_le _, Nat.zero_le _⟩ dX11_tuneFor_22) hS (fun v0 w0 H locs hp hW hS => ?_)
      obtain ⟨rfl, rfl⟩ := hp
      refine lv_if_eq (tgt := 31) hx hb dX11_tuneFor_25 (by decide) (fun c12 => ?_) (fun c12 => ?_)
      · rw [if_pos c12] at h
        refine lv_aload_n hx hb dX11_tuneFor_31 rfl (lv_at hl 0 rfl) ?_
        refine lv_iload_n hx hb dX11_tuneFor_32 rfl (lv_at hl 1 rfl) ?_
        refine lv_iload_n hx hb dX11_tuneFor_33 rfl (lv_at hl 2 rfl) ?_
        obtain ⟨r13, M14, h15, h⟩ := bind2 h
        refine cBack C.2.2.2.2.2.2.2.2 (runV (As := [.int (x), .int (y)]) (rest := []) C hW hS (c_X11_fits l g M10 x y _ _ h15) kV_X11_fits ml_X11_160 (by decide) tm_Model rfl rfl rfl hl.1 rfl (Nat.le_of_ble_eq_true rfl) ⟨Nat.le_of_ble_eq_true rfl, Nat.le_of_ble_eq_true rfl⟩ ⟨Nat.zero_le _, Nat.zero_le _⟩ dX11_tuneFor_34) hS (fun v0 w0 H locs hp hW hS => ?_)
        obtain ⟨rfl, rfl, zr13⟩ := hp
        refine lv_if_eq (tgt := 42) hx hb dX11_tuneFor_37 (by decide) (fun c16 => ?_) (fun c16 => ?_)
        · rw [if_pos c16] at h
          refine lv_aload_n hx hb dX11_tuneFor_42 rfl (lv_at hl 0 rfl) ?_
          refine lv_iload_n hx hb dX11_tuneFor_43 rfl (lv_at hl 1 rfl) ?_
          refine lv_iconst (v := 2) hx hb dX11_tuneFor_44 (by decide) ?_
          obtain ⟨r17, M18, h19, h⟩ := bind2 h
          refine cBack C.2.2.2.2.2.2.2.2 (runV (As := [.int (x), .int (2)]) (rest := []) C hW hS (c_X11_of l g M14 x 2 _ _ h19) kV_X11_of ml_X11_104 (by decide) tm_Model rfl rfl rfl hl.1 rfl (Nat.le_of_ble_eq_true rfl) ⟨Nat.le_of_ble_eq_true rfl, Nat.le_of_ble_eq_true rfl⟩ ⟨Nat.zero_le _, Nat.zero_le _⟩ dX11_tuneFor_45) hS (fun v0 w0 H locs hp hW hS => ?_)
          obtain ⟨rfl, rfl⟩ := hp
          refine lv_aload_n hx hb dX11_tuneFor_48 rfl (lv_at hl 0 rfl) ?_
          refine lv_iload_n hx hb dX11_tuneFor_49 rfl (lv_at hl 2 rfl) ?_
          refine lv_iconst (v := 0) hx hb dX11_tuneFor_50 (by decide) ?_
          obtain ⟨r20, M21, h22, h⟩ := bind2 h
          refine cBack C.2.2.2.2.2.2.2.2 (runV (As := [.int (y), .int (0)]) (rest := [.int (r17)]) C hW hS (c_X11_ofOrder l g M18 y 0 _ _ h22) kV_X11_ofOrder ml_X11_148 (by decide) tm_Model rfl rfl rfl hl.1 rfl (Nat.le_of_ble_eq_true rfl) ⟨Nat.le_of_ble_eq_true rfl, Nat.le_of_ble_eq_true rfl⟩ ⟨Nat.zero_le _, Nat.zero_le _⟩ dX11_tuneFor_51) hS (fun v0 w0 H locs hp hW hS => ?_)
          obtain ⟨rfl, rfl⟩ := hp
          refine lv_icmp_ne (tgt := 61) hx hb dX11_tuneFor_54 (by decide) (fun c23 => ?_) (fun c23 => ?_)
          · rw [if_neg c23] at h
            refine lv_iconst (v := 0) hx hb dX11_tuneFor_61 (by decide) ?_
            refine lv_istore_n (lv' := [(3, .int (0)), (0, rf g (1697)), (1, .int (x)), (2, .int (y))]) hx hb dX11_tuneFor_62 rfl hl (by decide) rfl (fun ls hl => ?_)
            refine lv_iconst (v := 1) hx hb dX11_tuneFor_63 (by decide) ?_
            refine lv_istore (lv' := [(4, .int (1)), (3, .int (0)), (0, rf g (1697)), (1, .int (x)), (2, .int (y))]) hx hb dX11_tuneFor_64 hl (by decide) rfl (fun ls hl => ?_)
            exact t_X11_tuneFor_66 l g    FU M21 x y 0 1 _ _ h C hr hlk _ _ hW hS ls (lv_sub hl [2, 3, 4, 1, 0] rfl)
          · rw [if_pos c23] at h
            refine lv_iconst (v := 1) hx hb dX11_tuneFor_57 (by decide) ?_
            refine lv_goto (tgt := 62) hx hb dX11_tuneFor_58 (by decide) ?_
            refine lv_istore_n (lv' := [(3, .int (1)), (0, rf g (1697)), (1, .int (x)), (2, .int (y))]) hx hb dX11_tuneFor_62 rfl hl (by decide) rfl (fun ls hl => ?_)
            refine lv_iconst (v := 1) hx hb dX11_tuneFor_63 (by decide) ?_
            refine lv_istore (lv' := [(4, .int (1)), (3, .int (1)), (0, rf g (1697)), (1, .int (x)), (2, .int (y))]) hx hb dX11_tuneFor_64 hl (by decide) rfl (fun ls hl => ?_)
            exact t_X11_tuneFor_66 l g    FU M21 x y 1 1 _ _ h C hr hlk _ _ hW hS ls (lv_sub hl [2, 3, 4, 1, 0] rfl)
        · rw [if_neg c16] at h
          refine lv_iconst (v := 0) hx hb dX11_tuneFor_40 (by decide) ?_
          cases h
          exact rI C hr hlk dX11_tuneFor_41 hW hS ⟨rfl, rfl⟩
      · rw [if_neg c12] at h
        refine lv_bipush (v := -2) hx hb dX11_tuneFor_28 (by decide) ?_
        cases h
        exact rI C hr hlk dX11_tuneFor_30 hW hS ⟨rfl, rfl⟩
    · rw [if_pos c8] at h
      refine lv_iconst (v := -1) hx hb dX11_tuneFor_16 (by decide) ?_
      cases h
      exact rI C hr hlk dX11_tuneFor_17 hW hS ⟨rfl, rfl⟩
def lp_X11_pourFor_45 (fu : Nat) (M : MM)  (x : Int32) (u : Int32) (v : Int32) (z : Int32) : Option (Int32 × MM) := match fu with
  | 0 => none
  | n + 1 => (if (z : Int32) ≤ 0 then some (-4, M) else (bnd2 (f_X11_sprueOf M z) fun r1002 M1003 => (if ((u) + (v) : Int32) < ((z) + (r1002) : Int32) then (lp_X11_pourFor_45 n M1003   x u v (z + (-1))) else (bnd2 (f_X11_copperIn M1003 z u v) fun r1006 M1007 => (bnd2 (f_X11_ofOrder M1007 x 0) fun r1009 M1010 => (bnd2 (f_X11_alloyOf M1010 r1006 ((z) - (r1006))) fun r1012 M1013 => (bnd2 (f_X11_pitchOf M1013 r1009 z r1012) fun r1015 M1016 => (bnd2 (f_X11_ofOrder M1016 x 1) fun r1018 M1019 => (if (r1015 : Int32) < (r1018 : Int32) then (lp_X11_pourFor_45 n M1019   x u v (z + (-1))) else some (z, M1019))))))))))
def f_X11_pourFor (M : MM) (x : Int32) : Option (Int32 × MM) := (bnd2 (f_X11_isOrder M x) fun r1 M2 => (if (r1 : Int32) = 0 then some (-1, M2) else (bnd2 (f_X11_laysAside M2 ) fun r5 M6 => (bnd2 (f_X11_burns M6 6) fun r8 M9 => (if vin (6) 1254 then (if vin (7) 1254 then (bnd2 (f_X11_bringsBack M9 ) fun r13 M14 => (lp_X11_pourFor_45 FU M14   x (M9 21 (6 : Int32).toNatClampNeg) (M9 21 (7 : Int32).toNatClampNeg) 10000)) else none) else none)))))
set_option maxHeartbeats 4000000 in
set_option maxRecDepth 100000 in
theorem t_X11_pourFor_45 (l : Launch) (g : GD) {p : Program} {e : Env} {s : State} {m : MethodId} {av : Array Value} {below : List Frame} {meth : Method} {c : Code}  (n : Nat) : ∀ (M : MM) (x : Int32) (u : Int32) (v : Int32) (z : Int32) (r : Int32) (M2 : MM), lp_X11_pourFor_45 n M   x u v z = some (r, M2) → CX p s m av c cX11_pourFor 6 RX11 g → meth.sig.returnType = (some .int) → meth.locks = false → ∀ (H : Heap) (locs : List Loc), Wd g M H → sS g s H locs → ∀ ls : Array Slot, lv_has ls 6 [(0, rf g (1697)), (1, .int (x)), (2, .int (u)), (3, .int (v)), (4, .int (z))] → W p l e (RM 3 64) s m av below meth c H locs 0 0 (MQ below (QQ g (fun v w0 => v = .int r ∧ M2 = w0)) av s 0 0 (AA g)) (F0 m 45 ls []) := by
  induction n with
  | zero => intro M x u v z r M2 h; cases h
  | succ n ih0 =>
    intro M x u v z r M2 h C hr hlk H locs hW hS ls hl
    have ih : ∀ (M : MM) (x : Int32) (u : Int32) (v : Int32) (z : Int32), lp_X11_pourFor_45 n M   x u v z = some (r, M2) → ∀ (H : Heap) (locs : List Loc), Wd g M H → sS g s H locs → ∀ ls : Array Slot, lv_has ls 6 [(0, rf g (1697)), (1, .int (x)), (2, .int (u)), (3, .int (v)), (4, .int (z))] → W p l e (RM 3 64) s m av below meth c H locs 0 0 (MQ below (QQ g (fun v w0 => v = .int r ∧ M2 = w0)) av s 0 0 (AA g)) (F0 m 45 ls []) := fun M x u v z h H locs hW hS ls hl => ih0 M x u v z r M2 h C hr hlk H locs hW hS ls hl
    unfold lp_X11_pourFor_45 at h
    try dsimp only at h
    have hx := C.1
    have hb := C.2.1
    have hts := C.2.2.2.2.1
    refine lv_iload hx hb dX11_pourFor_45 (lv_at hl 4 rfl) ?_
    refine lv_if_le (tgt := 113) hx hb dX11_pourFor_47 (by decide) (fun c1001 => ?_) (fun c1001 => ?_)
    · rw [if_pos c1001] at h
      refine lv_bipush (v := -4) hx hb dX11_pourFor_113 (by decide) ?_
      cases h
      exact rI C hr hlk dX11_pourFor_115 hW hS ⟨rfl, rfl⟩
    · rw [if_neg c1001] at h
      refine lv_iload hx hb dX11_pourFor_50 (lv_at hl 4 rfl) ?_
      refine lv_aload_n hx hb dX11_pourFor_52 rfl (lv_at hl 0 rfl) ?_
      refine lv_iload hx hb dX11_pourFor_53 (lv_at hl 4 rfl) ?_
      obtain ⟨r1002, M1003, h1004, h⟩ := bind2 h
      refine cBack C.2.2.2.2.2.2.2.2 (runV (As := [.int (z)]) (rest := [.int (z)]) C hW hS (c_X11_sprueOf l g M z _ _ h1004) kV_X11_sprueOf ml_X11_122 (by decide) tm_Model rfl rfl rfl hl.1 rfl (Nat.le_of_ble_eq_true rfl) ⟨Nat.le_of_ble_eq_true rfl, Nat.le_of_ble_eq_true rfl⟩ ⟨Nat.zero_le _, Nat.zero_le _⟩ dX11_pourFor_55) hS (fun v0 w0 H locs hp hW hS => ?_)
      obtain ⟨rfl, rfl⟩ := hp
      refine lv_iadd hx hb dX11_pourFor_58 ?_
      refine lv_iload_n hx hb dX11_pourFor_59 rfl (lv_at hl 2 rfl) ?_
      refine lv_iload_n hx hb dX11_pourFor_60 rfl (lv_at hl 3 rfl) ?_
      refine lv_iadd hx hb dX11_pourFor_61 ?_
      refine lv_icmp_gt (tgt := 107) hx hb dX11_pourFor_62 (by decide) (fun c1005 => ?_) (fun c1005 => ?_)
      · rw [if_pos c1005] at h
        refine lv_iinc (v := z + (-1)) (lv' := [(4, .int (z + (-1))), (0, rf g (1697)), (1, .int (x)), (2, .int (u)), (3, .int (v))]) hx hb dX11_pourFor_107 hl (k := 4) rfl rfl (by decide) rfl (fun ls hl => ?_)
        refine lv_goto (tgt := 45) hx hb dX11_pourFor_110 (by decide) ?_
        exact ih M1003 x u v (z + (-1)) h _ _ hW hS ls (lv_sub hl [1, 2, 3, 4, 0] rfl)
      · rw [if_neg c1005] at h
        refine lv_iload hx hb dX11_pourFor_65 (lv_at hl 4 rfl) ?_
        refine lv_iload_n hx hb dX11_pourFor_67 rfl (lv_at hl 2 rfl) ?_
        refine lv_iload_n hx hb dX11_pourFor_68 rfl (lv_at hl 3 rfl) ?_
        obtain ⟨r1006, M1007, h1008, h⟩ := bind2 h
        refine cBack C.2.2.2.2.2.2.2.2 (runS (As := [.int (z), .int (u), .int (v)]) (rest := []) C hW hS (c_X11_copperIn l g M1003 z u v _ _ h1008) kS_X11_copperIn ml_X11_53 rfl hl.1 rfl (Nat.le_of_ble_eq_true rfl) ⟨Nat.le_of_ble_eq_true rfl, Nat.le_of_ble_eq_true rfl⟩ ⟨Nat.zero_le _, Nat.zero_le _⟩ dX11_pourFor_69) hS (fun v0 w0 H locs hp hW hS => ?_)
        obtain ⟨rfl, rfl⟩ := hp
        refine lv_istore (lv' := [(5, .int (r1006)), (0, rf g (1697)), (1, .int (x)), (2, .int (u)), (3, .int (v)), (4, .int (z))]) hx hb dX11_pourFor_72 hl (by decide) rfl (fun ls hl => ?_)
        refine lv_aload_n hx hb dX11_pourFor_74 rfl (lv_at hl 1 rfl) ?_
        refine lv_iload_n hx hb dX11_pourFor_75 rfl (lv_at hl 2 rfl) ?_
        refine lv_iconst (v := 0) hx hb dX11_pourFor_76 (by decide) ?_
        obtain ⟨r1009, M1010, h1011, h⟩ := bind2 h
        refine cBack C.2.2.2.2.2.2.2.2 (runV (As := [.int (x), .int (0)]) (rest := []) C hW hS (c_X11_ofOrder l g M1007 x 0 _ _ h1011) kV_X11_ofOrder ml_X11_148 (by decide) tm_Model rfl rfl rfl hl.1 rfl (Nat.le_of_ble_eq_true rfl) ⟨Nat.le_of_ble_eq_true rfl, Nat.le_of_ble_eq_true rfl⟩ ⟨Nat.zero_le _, Nat.zero_le _⟩ dX11_pourFor_77) hS (fun v0 w0 H locs hp hW hS => ?_)
        obtain ⟨rfl, rfl⟩ := hp
        refine lv_iload hx hb dX11_pourFor_80 (lv_at hl 5 rfl) ?_
        refine lv_iload hx hb dX11_pourFor_82 (lv_at hl 0 rfl) ?_
        refine lv_iload hx hb dX11_pourFor_84 (lv_at hl 5 rfl) ?_
        refine lv_iload hx hb dX11_pourFor_86 (lv_at hl 0 rfl) ?_
        refine lv_isub hx hb dX11_pourFor_88 ?_
        obtain ⟨r1012, M1013, h1014, h⟩ := bind2 h
        refine cBack C.2.2.2.2.2.2.2.2 (runS (As := [.int (r1006), .int ((z) - (r1006))]) (rest := [.int (z), .int (r1009)]) C hW hS (c_X11_alloyOf l g M1010 r1006 ((z) - (r1006)) _ _ h1014) kS_X11_alloyOf ml_X11_49 rfl hl.1 rfl (Nat.le_of_ble_eq_true rfl) ⟨Nat.le_of_ble_eq_true rfl, Nat.le_of_ble_eq_true rfl⟩ ⟨Nat.zero_le _, Nat.zero_le _⟩ dX11_pourFor_89) hS (fun v0 w0 H locs hp hW hS => ?_)
        obtain ⟨rfl, rfl⟩ := hp
        obtain ⟨r1015, M1016, h1017, h⟩ := bind2 h
        refine cBack C.2.2.2.2.2.2.2.2 (runS (As := [.int (r1009), .int (z), .int (r1012)]) (rest := []) C hW hS (c_X11_pitchOf l g M1013 r1009 z r1012 _ _ h1017) kS_X11_pitchOf ml_X11_135 rfl hl.1 rfl (Nat.le_of_ble_eq_true rfl) ⟨Nat.le_of_ble_eq_true rfl, Nat.le_of_ble_eq_true rfl⟩ ⟨Nat.zero_le _, Nat.zero_le _⟩ dX11_pourFor_92) hS (fun v0 w0 H locs hp hW hS => ?_)
        obtain ⟨rfl, rfl⟩ := hp
        refine lv_aload_n hx hb dX11_pourFor_95 rfl (lv_at hl 1 rfl) ?_
        refine lv_iload_n hx hb dX11_pourFor_96 rfl (lv_at hl 2 rfl) ?_
        refine lv_iconst (v := 1) hx hb dX11_pourFor_97 (by decide) ?_
        obtain ⟨r1018, M1019, h1020, h⟩ := bind2 h
        refine cBack C.2.2.2.2.2.2.2.2 (runV (As := [.int (x), .int (1)]) (rest := [.int (r1015)]) C hW hS (c_X11_ofOrder l g M1016 x 1 _ _ h1020) kV_X11_ofOrder ml_X11_148 (by decide) tm_Model rfl rfl rfl hl.1 rfl (Nat.le_of_ble_eq_true rfl) ⟨Nat.le_of_ble_eq_true rfl, Nat.le_of_ble_eq_true rfl⟩ ⟨Nat.zero_le _, Nat.zero_le _⟩ dX11_pourFor_98) hS (fun v0 w0 H locs hp hW hS => ?_)
        obtain ⟨rfl, rfl⟩ := hp
        refine lv_icmp_lt (tgt := 107) hx hb dX11_pourFor_101 (by decide) (fun c1021 => ?_) (fun c1021 => ?_)
        · rw [if_pos c1021] at h
          refine lv_iinc (v := z + (-1)) (lv' := [(4, .int (z + (-1))), (5, .int (r1006)), (0, rf g (1697)), (1, .int (x)), (2, .int (u)), (3, .int (v))]) hx hb dX11_pourFor_107 hl (k := 5) rfl rfl (by decide) rfl (fun ls hl => ?_)
          refine lv_goto (tgt := 45) hx hb dX11_pourFor_110 (by decide) ?_
          exact ih M1019 x u v (z + (-1)) h _ _ hW hS ls (lv_sub hl [2, 3, 4, 5, 0] rfl)
        · rw [if_neg c1021] at h
          refine lv_iload hx hb dX11_pourFor_104 (lv_at hl 5 rfl) ?_
          cases h
          exact rI C hr hlk dX11_pourFor_106 hW hS ⟨rfl, rfl⟩
set_option maxHeartbeats 4000000 in
set_option maxRecDepth 100000 in
theorem c_X11_pourFor (l : Launch) (g : GD) (M : MM) (x : Int32) (r : Int32) (M2 : MM) (h : f_X11_pourFor M x = some (r, M2)) : Met l yX11_pourFor (wm yX11_pourFor cX11_pourFor 6 (some .int)) (RM 3 64) (va_Pc [rf g (1697), .int (x)] (WDp g M)) (QQ g (fun v w0 => v = .int r ∧ M2 = w0)) 0 0 (AA g) := by
  refine mkM (by decide +kernel) (Nat.le_of_ble_eq_true rfl) ?_
  intro p e s m below meth c C hr hlk hW hS ls hl
  have hl : lv_has ls 6 [(0, rf g (1697)), (1, .int (x))] := hl
  have hx := C.1
  have hb := C.2.1
  have hts := C.2.2.2.2.1
  unfold f_X11_pourFor at h
  refine lv_aload_n hx hb dX11_pourFor_0 rfl (lv_at hl 0 rfl) ?_
  refine lv_iload_n hx hb dX11_pourFor_1 rfl (lv_at hl 1 rfl) ?_
  obtain ⟨r1, M2, h3, h⟩ := bind2 h
  refine cBack C.2.2.2.2.2.2.2.2 (runV (As := [.int (x)]) (rest := []) C hW hS (c_X11_isOrder l g M x _ _ h3) kV_X11_isOrder ml_X11_157 (by decide) tm_Model rfl rfl rfl hl.1 rfl (Nat.le_of_ble_eq_true rfl) ⟨Nat.le_of_ble_eq_true rfl, Nat.le_of_ble_eq_true rfl⟩ ⟨Nat.zero_le _, Nat.zero_le _⟩ dX11_pourFor_2) hS (fun v0 w0 H locs hp hW hS => ?_)
  obtain ⟨rfl, rfl, zr1⟩ := hp
  refine lv_if_ne (tgt := 10) hx hb dX11_pourFor_5 (by decide) (fun c4 => ?_) (fun c4 => ?_)
  · rw [if_neg c4] at h
    refine lv_aload_n hx hb dX11_pourFor_10 rfl (lv_at hl 0 rfl) ?_
    obtain ⟨r5, M6, h7, h⟩ := bind2 h
    refine cBackV C.2.2.2.2.2.2.2.2 (runV (As := []) (rest := []) C hW hS (c_X11_laysAside l g M2  _ _ h7) kV_X11_laysAside ml_X11_163 (by decide) tm_Model rfl rfl rfl hl.1 rfl (Nat.le_of_ble_eq_true rfl) ⟨Nat.le_of_ble_eq_true rfl, Nat.le_of_ble_eq_true rfl⟩ ⟨Nat.zero_le _, Nat.zero_le _⟩ dX11_pourFor_11) hS (fun v0 H locs hp hW hS => ?_)
    subst hp
    refine lv_aload_n hx hb dX11_pourFor_14 rfl (lv_at hl 0 rfl) ?_
    refine lv_bipush (v := 6) hx hb dX11_pourFor_15 (by decide) ?_
    obtain ⟨r8, M9, h10, h⟩ := bind2 h
    refine cBackV C.2.2.2.2.2.2.2.2 (runV (As := [.int (6)]) (rest := []) C hW hS (c_X11_burns l g M6 6 _ _ h10) kV_X11_burns ml_X11_94 (by decide) tm_Model rfl rfl rfl hl.1 rfl (Nat.le_of_ble_eq_true rfl) ⟨Nat.le_of_ble_eq_true rfl, Nat.le_of_ble_eq_true rfl⟩ ⟨Nat.zero_le _, Nat.zero_le _⟩ dX11_pourFor_17) hS (fun v0 H locs hp hW hS => ?_)
    subst hp
    refine lv_aload_n hx hb dX11_pourFor_20 rfl (lv_at hl 0 rfl) ?_
    refine rGet (k := 0) C hW (by decide) tm_Model rfl inX11 (by decide) fl_X11_7 rfl dX11_pourFor_21 ?_
    refine lv_bipush (v := 6) hx hb dX11_pourFor_24 (by decide) ?_
    have s11 : vin (6) 1254 := Classical.byContradiction fun q9 => by rw [if_neg q9] at h; cases h
    rw [if_pos s11] at h
    refine rIld C hW (by decide) tm_s s11 dX11_pourFor_26 ?_
    refine lv_istore_n (lv' := [(2, .int (M9 21 (6 : Int32).toNatClampNeg)), (0, rf g (1697)), (1, .int (x))]) hx hb dX11_pourFor_27 rfl hl (by decide) rfl (fun ls hl => ?_)
    refine lv_aload_n hx hb dX11_pourFor_28 rfl (lv_at hl 1 rfl) ?_
    refine rGet (k := 0) C hW (by decide) tm_Model rfl inX11 (by decide) fl_X11_7 rfl dX11_pourFor_29 ?_
    refine lv_bipush (v := 7) hx hb dX11_pourFor_32 (by decide) ?_
    have s12 : vin (7) 1254 := Classical.byContradiction fun q9 => by rw [if_neg q9] at h; cases h
    rw [if_pos s12] at h
    refine rIld C hW (by decide) tm_s s12 dX11_pourFor_34 ?_
    refine lv_istore_n (lv' := [(3, .int (M9 21 (7 : Int32).toNatClampNeg)), (2, .int (M9 21 (6 : Int32).toNatClampNeg)), (0, rf g (1697)), (1, .int (x))]) hx hb dX11_pourFor_35 rfl hl (by decide) rfl (fun ls hl => ?_)
    refine lv_aload_n hx hb dX11_pourFor_36 rfl (lv_at hl 2 rfl) ?_
    obtain ⟨r13, M14, h15, h⟩ := bind2 h
    refine cBackV C.2.2.2.2.2.2.2.2 (runV (As := []) (rest := []) C hW hS (c_X11_bringsBack l g M9  _ _ h15) kV_X11_bringsBack ml_X11_166 (by decide) tm_Model rfl rfl rfl hl.1 rfl (Nat.le_of_ble_eq_true rfl) ⟨Nat.le_of_ble_eq_true rfl, Nat.le_of_ble_eq_true rfl⟩ ⟨Nat.zero_le _, Nat.zero_le _⟩ dX11_pourFor_37) hS (fun v0 H locs hp hW hS => ?_)
    subst hp
    refine lv_sipush (v := 10000) hx hb dX11_pourFor_40 (by decide) ?_
    refine lv_istore (lv' := [(4, .int (10000)), (3, .int (M9 21 (7 : Int32).toNatClampNeg)), (2, .int (M9 21 (6 : Int32).toNatClampNeg)), (0, rf g (1697)), (1, .int (x))]) hx hb dX11_pourFor_43 hl (by decide) rfl (fun ls hl => ?_)
    exact t_X11_pourFor_45 l g    FU M14 x (M9 21 (6 : Int32).toNatClampNeg) (M9 21 (7 : Int32).toNatClampNeg) 10000 _ _ h C hr hlk _ _ hW hS ls (lv_sub hl [3, 4, 2, 1, 0] rfl)
  · rw [if_pos c4] at h
    refine lv_iconst (v := -1) hx hb dX11_pourFor_8 (by decide) ?_
    cases h
    exact rI C hr hlk dX11_pourFor_9 hW hS ⟨rfl, rfl⟩
def lp_X11_takesBells_10 (fu : Nat) (M : MM)  (x : Int32) (u : Int32) (v : Int32) (y : Int32) (z : Int32) : Option (Int32 × MM) := match fu with
  | 0 => none
  | n + 1 => (if vin (52) 1254 then (if (M 21 (52 : Int32).toNatClampNeg : Int32) ≤ (z : Int32) then (if (x : Int32) < 0 then some (-1, M) else (if ((x) >>> ((v) &&& 31) : Int32) = 0 then (if (y : Int32) = 0 then some (-2, M) else some (u, M)) else some (-1, M))) else (bnd2 (f_X11_isHere M z) fun r1006 M1007 => (if (r1006 : Int32) = 0 then (lp_X11_takesBells_10 n M1007   x u v y (z + 1)) else (if (((x) >>> ((v) &&& 31)) &&& (1) : Int32) = (1 : Int32) then (bnd2 (f_X11_atBell M1007 z) fun r1011 M1012 => (bnd2 (f_X11_weight M1012 r1011) fun r1014 M1015 => (if vin (u) 12 then (letB (up2 M1015 24 (u : Int32).toNatClampNeg (r1014)) fun M1018 => (if (y : Int32) = 0 then (lp_X11_takesBells_10 n M1018   x (u + 1) (v + 1) 0 (z + 1)) else (if vin (u) 12 then (bnd2 (f_X11_setting M1018 6) fun r1021 M1022 => (if (r1021 : Int32) < (M1018 24 (u : Int32).toNatClampNeg : Int32) then (lp_X11_takesBells_10 n M1022   x (u + 1) (v + 1) 0 (z + 1)) else (lp_X11_takesBells_10 n M1022   x (u + 1) (v + 1) 1 (z + 1)))) else none))) else none))) else (lp_X11_takesBells_10 n M1007   x u (v + 1) y (z + 1)))))) else none)
def f_X11_takesBells (M : MM) (x : Int32) : Option (Int32 × MM) := (lp_X11_takesBells_10 FU M   x 0 0 1 0)
set_option maxHeartbeats 4000000 in
set_option maxRecDepth 100000 in
theorem t_X11_takesBells_10 (l : Launch) (g : GD) {p : Program} {e : Env} {s : State} {m : MethodId} {av : Array Value} {below : List Frame} {meth : Method} {c : Code}  (n : Nat) : ∀ (M : MM) (x : Int32) (u : Int32) (v : Int32) (y : Int32) (z : Int32) (r : Int32) (M2 : MM), lp_X11_takesBells_10 n M   x u v y z = some (r, M2) → CX p s m av c cX11_takesBells 6 RX11 g → meth.sig.returnType = (some .int) → meth.locks = false → ∀ (H : Heap) (locs : List Loc), Wd g M H → sS g s H locs → ∀ ls : Array Slot, lv_has ls 6 [(0, rf g (1697)), (1, .int (x)), (2, .int (u)), (3, .int (v)), (4, .int (y)), (5, .int (z))] → W p l e (RM 2 43) s m av below meth c H locs 0 0 (MQ below (QQ g (fun v w0 => v = .int r ∧ M2 = w0)) av s 0 0 (AA g)) (F0 m 10 ls []) := by
  induction n with
  | zero => intro M x u v y z r M2 h; cases h
  | succ n ih0 =>
    intro M x u v y z r M2 h C hr hlk H locs hW hS ls hl
    have ih : ∀ (M : MM) (x : Int32) (u : Int32) (v : Int32) (y : Int32) (z : Int32), lp_X11_takesBells_10 n M   x u v y z = some (r, M2) → ∀ (H : Heap) (locs : List Loc), Wd g M H → sS g s H locs → ∀ ls : Array Slot, lv_has ls 6 [(0, rf g (1697)), (1, .int (x)), (2, .int (u)), (3, .int (v)), (4, .int (y)), (5, .int (z))] → W p l e (RM 2 43) s m av below meth c H locs 0 0 (MQ below (QQ g (fun v w0 => v = .int r ∧ M2 = w0)) av s 0 0 (AA g)) (F0 m 10 ls []) := fun M x u v y z h H locs hW hS ls hl => ih0 M x u v y z r M2 h C hr hlk H locs hW hS ls hl
    unfold lp_X11_takesBells_10 at h
    try dsimp only at h
    have hx := C.1
    have hb := C.2.1
    have hts := C.2.2.2.2.1
    refine lv_iload hx hb dX11_takesBells_10 (lv_at hl 5 rfl) ?_
    refine lv_aload_n hx hb dX11_takesBells_12 rfl (lv_at hl 0 rfl) ?_
    refine rGet (k := 0) C hW (by decide) tm_Model rfl inX11 (by decide) fl_X11_7 rfl dX11_takesBells_13 ?_
    refine lv_bipush (v := 52) hx hb dX11_takesBells_16 (by decide) ?_
    have s1001 : vin (52) 1254 := Classical.byContradiction fun q9 => by rw [if_neg q9] at h; cases h
    rw [if_pos s1001] at h
    refine rIld C hW (by decide) tm_s s1001 dX11_takesBells_18 ?_
    refine lv_icmp_ge (tgt := 94) hx hb dX11_takesBells_19 (by decide) (fun c1002 => ?_) (fun c1002 => ?_)
    · rw [if_pos c1002] at h
      refine lv_iload_n hx hb dX11_takesBells_94 rfl (lv_at hl 1 rfl) ?_
      refine lv_if_lt (tgt := 104) hx hb dX11_takesBells_95 (by decide) (fun c1003 => ?_) (fun c1003 => ?_)
      · rw [if_pos c1003] at h
        refine lv_iconst (v := -1) hx hb dX11_takesBells_104 (by decide) ?_
        refine lv_goto (tgt := 119) hx hb dX11_takesBells_105 (by decide) ?_
        cases h
        exact rI C hr hlk dX11_takesBells_119 hW hS ⟨rfl, rfl⟩
      · rw [if_neg c1003] at h
        refine lv_iload_n hx hb dX11_takesBells_98 rfl (lv_at hl 1 rfl) ?_
        refine lv_iload_n hx hb dX11_takesBells_99 rfl (lv_at hl 3 rfl) ?_
        refine lv_ishr hx hb dX11_takesBells_100 ?_
        refine lv_if_eq (tgt := 108) hx hb dX11_takesBells_101 (by decide) (fun c1004 => ?_) (fun c1004 => ?_)
        · rw [if_pos c1004] at h
          refine lv_iload hx hb dX11_takesBells_108 (lv_at hl 4 rfl) ?_
          refine lv_if_eq (tgt := 117) hx hb dX11_takesBells_110 (by decide) (fun c1005 => ?_) (fun c1005 => ?_)
          · rw [if_pos c1005] at h
            refine lv_bipush (v := -2) hx hb dX11_takesBells_117 (by decide) ?_
            cases h
            exact rI C hr hlk dX11_takesBells_119 hW hS ⟨rfl, rfl⟩
          · rw [if_neg c1005] at h
            refine lv_iload_n hx hb dX11_takesBells_113 rfl (lv_at hl 2 rfl) ?_
            refine lv_goto (tgt := 119) hx hb dX11_takesBells_114 (by decide) ?_
            cases h
            exact rI C hr hlk dX11_takesBells_119 hW hS ⟨rfl, rfl⟩
        · rw [if_neg c1004] at h
          refine lv_iconst (v := -1) hx hb dX11_takesBells_104 (by decide) ?_
          refine lv_goto (tgt := 119) hx hb dX11_takesBells_105 (by decide) ?_
          cases h
          exact rI C hr hlk dX11_takesBells_119 hW hS ⟨rfl, rfl⟩
    · rw [if_neg c1002] at h
      refine lv_aload_n hx hb dX11_takesBells_22 rfl (lv_at hl 0 rfl) ?_
      refine lv_iload hx hb dX11_takesBells_23 (lv_at hl 5 rfl) ?_
      obtain ⟨r1006, M1007, h1008, h⟩ := bind2 h
      refine cBack C.2.2.2.2.2.2.2.2 (runV (As := [.int (z)]) (rest := []) C hW hS (c_X11_isHere l g M z _ _ h1008) kV_X11_isHere ml_X11_107 (by decide) tm_Model rfl rfl rfl hl.1 rfl (Nat.le_of_ble_eq_true rfl) ⟨Nat.le_of_ble_eq_true rfl, Nat.le_of_ble_eq_true rfl⟩ ⟨Nat.zero_le _, Nat.zero_le _⟩ dX11_takesBells_25) hS (fun v0 w0 H locs hp hW hS => ?_)
      obtain ⟨rfl, rfl, zr1006⟩ := hp
      refine lv_if_eq (tgt := 88) hx hb dX11_takesBells_28 (by decide) (fun c1009 => ?_) (fun c1009 => ?_)
      · rw [if_pos c1009] at h
        refine lv_iinc (v := z + 1) (lv' := [(5, .int (z + 1)), (0, rf g (1697)), (1, .int (x)), (2, .int (u)), (3, .int (v)), (4, .int (y))]) hx hb dX11_takesBells_88 hl (k := 5) rfl rfl (by decide) rfl (fun ls hl => ?_)
        refine lv_goto (tgt := 10) hx hb dX11_takesBells_91 (by decide) ?_
        exact ih M1007 x u v y (z + 1) h _ _ hW hS ls (lv_sub hl [1, 2, 3, 4, 5, 0] rfl)
      · rw [if_neg c1009] at h
        refine lv_iload_n hx hb dX11_takesBells_31 rfl (lv_at hl 1 rfl) ?_
        refine lv_iload_n hx hb dX11_takesBells_32 rfl (lv_at hl 3 rfl) ?_
        refine lv_ishr hx hb dX11_takesBells_33 ?_
        refine lv_iconst (v := 1) hx hb dX11_takesBells_34 (by decide) ?_
        refine lv_iand hx hb dX11_takesBells_35 ?_
        refine lv_iconst (v := 1) hx hb dX11_takesBells_36 (by decide) ?_
        refine lv_icmp_ne (tgt := 85) hx hb dX11_takesBells_37 (by decide) (fun c1010 => ?_) (fun c1010 => ?_)
        · rw [if_neg c1010] at h
          refine lv_iinc (v := v + 1) (lv' := [(3, .int (v + 1)), (0, rf g (1697)), (1, .int (x)), (2, .int (u)), (4, .int (y)), (5, .int (z))]) hx hb dX11_takesBells_85 hl (k := 3) rfl rfl (by decide) rfl (fun ls hl => ?_)
          refine lv_iinc (v := z + 1) (lv' := [(5, .int (z + 1)), (3, .int (v + 1)), (0, rf g (1697)), (1, .int (x)), (2, .int (u)), (4, .int (y))]) hx hb dX11_takesBells_88 hl (k := 5) rfl rfl (by decide) rfl (fun ls hl => ?_)
          refine lv_goto (tgt := 10) hx hb dX11_takesBells_91 (by decide) ?_
          exact ih M1007 x u (v + 1) y (z + 1) h _ _ hW hS ls (lv_sub hl [2, 3, 4, 1, 5, 0] rfl)
        · rw [if_pos c1010] at h
          refine lv_aload_n hx hb dX11_takesBells_40 rfl (lv_at hl 0 rfl) ?_
          refine rGet (k := 4) C hW (by decide) tm_Model rfl inX11 (by decide) fl_X11_19 rfl dX11_takesBells_41 ?_
          refine lv_iload_n hx hb dX11_takesBells_44 rfl (lv_at hl 2 rfl) ?_
          refine lv_aload_n hx hb dX11_takesBells_45 rfl (lv_at hl 0 rfl) ?_
          refine lv_iload hx hb dX11_takesBells_46 (lv_at hl 5 rfl) ?_
          obtain ⟨r1011, M1012, h1013, h⟩ := bind2 h
          refine cBack C.2.2.2.2.2.2.2.2 (runS (As := [.int (z)]) (rest := [rf g (1697), .int (u), rf g (1701)]) C hW hS (c_X11_atBell l g M1007 z _ _ h1013) kS_X11_atBell ml_X11_129 rfl hl.1 rfl (Nat.le_of_ble_eq_true rfl) ⟨Nat.le_of_ble_eq_true rfl, Nat.le_of_ble_eq_true rfl⟩ ⟨Nat.zero_le _, Nat.zero_le _⟩ dX11_takesBells_48) hS (fun v0 w0 H locs hp hW hS => ?_)
          obtain ⟨rfl, rfl⟩ := hp
          obtain ⟨r1014, M1015, h1016, h⟩ := bind2 h
          refine cBack C.2.2.2.2.2.2.2.2 (runV (As := [.int (r1011)]) (rest := [.int (u), rf g (1701)]) C hW hS (c_X11_weight l g M1012 r1011 _ _ h1016) kV_X11_weight ml_X11_88 (by decide) tm_Model rfl rfl rfl hl.1 rfl (Nat.le_of_ble_eq_true rfl) ⟨Nat.le_of_ble_eq_true rfl, Nat.le_of_ble_eq_true rfl⟩ ⟨Nat.zero_le _, Nat.zero_le _⟩ dX11_takesBells_51) hS (fun v0 w0 H locs hp hW hS => ?_)
          obtain ⟨rfl, rfl⟩ := hp
          have s1017 : vin (u) 12 := Classical.byContradiction fun q9 => by rw [if_neg q9] at h; cases h
          rw [if_pos s1017] at h
          refine rIst (M' := up2 M1015 24 (u : Int32).toNatClampNeg (r1014)) C hW hS (by decide) tm_loads s1017 (UPD_G (by decide) rfl (by rw [tm_loads, up2_gr])) dX11_takesBells_54 (fun H locs hW hS => ?_)
          have hW : Wd g (up2 M1015 24 (u : Int32).toNatClampNeg (r1014)) H := hW
          have h := letE h
          generalize up2 M1015 24 (u : Int32).toNatClampNeg (r1014) = M1018 at hW h
          refine lv_iload hx hb dX11_takesBells_55 (lv_at hl 4 rfl) ?_
          refine lv_if_eq (tgt := 79) hx hb dX11_takesBells_57 (by decide) (fun c1019 => ?_) (fun c1019 => ?_)
          · rw [if_pos c1019] at h
            refine lv_iconst (v := 0) hx hb dX11_takesBells_79 (by decide) ?_
            refine lv_istore (lv' := [(4, .int (0)), (0, rf g (1697)), (1, .int (x)), (2, .int (u)), (3, .int (v)), (5, .int (z))]) hx hb dX11_takesBells_80 hl (by decide) rfl (fun ls hl => ?_)
            refine lv_iinc (v := u + 1) (lv' := [(2, .int (u + 1)), (4, .int (0)), (0, rf g (1697)), (1, .int (x)), (3, .int (v)), (5, .int (z))]) hx hb dX11_takesBells_82 hl (k := 3) rfl rfl (by decide) rfl (fun ls hl => ?_)
            refine lv_iinc (v := v + 1) (lv' := [(3, .int (v + 1)), (2, .int (u + 1)), (4, .int (0)), (0, rf g (1697)), (1, .int (x)), (5, .int (z))]) hx hb dX11_takesBells_85 hl (k := 4) rfl rfl (by decide) rfl (fun ls hl => ?_)
            refine lv_iinc (v := z + 1) (lv' := [(5, .int (z + 1)), (3, .int (v + 1)), (2, .int (u + 1)), (4, .int (0)), (0, rf g (1697)), (1, .int (x))]) hx hb dX11_takesBells_88 hl (k := 5) rfl rfl (by decide) rfl (fun ls hl => ?_)
            refine lv_goto (tgt := 10) hx hb dX11_takesBells_91 (by decide) ?_
            exact ih M1018 x (u + 1) (v + 1) 0 (z + 1) h _ _ hW hS ls (lv_sub hl [4, 5, 2, 1, 3, 0] rfl)
          · rw [if_neg c1019] at h
            refine lv_aload_n hx hb dX11_takesBells_60 rfl (lv_at hl 0 rfl) ?_
            refine rGet (k := 4) C hW (by decide) tm_Model rfl inX11 (by decide) fl_X11_19 rfl dX11_takesBells_61 ?_
            refine lv_iload_n hx hb dX11_takesBells_64 rfl (lv_at hl 2 rfl) ?_
            have s1020 : vin (u) 12 := Classical.byContradiction fun q9 => by rw [if_neg q9] at h; cases h
            rw [if_pos s1020] at h
            refine rIld C hW (by decide) tm_loads s1020 dX11_takesBells_65 ?_
            refine lv_aload_n hx hb dX11_takesBells_66 rfl (lv_at hl 0 rfl) ?_
            refine lv_bipush (v := 6) hx hb dX11_takesBells_67 (by decide) ?_
            obtain ⟨r1021, M1022, h1023, h⟩ := bind2 h
            refine cBack C.2.2.2.2.2.2.2.2 (runV (As := [.int (6)]) (rest := [.int (M1018 24 (u : Int32).toNatClampNeg)]) C hW hS (c_X11_setting l g M1018 6 _ _ h1023) kV_X11_setting ml_X11_61 (by decide) tm_Model rfl rfl rfl hl.1 rfl (Nat.le_of_ble_eq_true rfl) ⟨Nat.le_of_ble_eq_true rfl, Nat.le_of_ble_eq_true rfl⟩ ⟨Nat.zero_le _, Nat.zero_le _⟩ dX11_takesBells_69) hS (fun v0 w0 H locs hp hW hS => ?_)
            obtain ⟨rfl, rfl⟩ := hp
            refine lv_icmp_gt (tgt := 79) hx hb dX11_takesBells_72 (by decide) (fun c1024 => ?_) (fun c1024 => ?_)
            · rw [if_pos c1024] at h
              refine lv_iconst (v := 0) hx hb dX11_takesBells_79 (by decide) ?_
              refine lv_istore (lv' := [(4, .int (0)), (0, rf g (1697)), (1, .int (x)), (2, .int (u)), (3, .int (v)), (5, .int (z))]) hx hb dX11_takesBells_80 hl (by decide) rfl (fun ls hl => ?_)
              refine lv_iinc (v := u + 1) (lv' := [(2, .int (u + 1)), (4, .int (0)), (0, rf g (1697)), (1, .int (x)), (3, .int (v)), (5, .int (z))]) hx hb dX11_takesBells_82 hl (k := 3) rfl rfl (by decide) rfl (fun ls hl => ?_)
              refine lv_iinc (v := v + 1) (lv' := [(3, .int (v + 1)), (2, .int (u + 1)), (4, .int (0)), (0, rf g (1697)), (1, .int (x)), (5, .int (z))]) hx hb dX11_takesBells_85 hl (k := 4) rfl rfl (by decide) rfl (fun ls hl => ?_)
              refine lv_iinc (v := z + 1) (lv' := [(5, .int (z + 1)), (3, .int (v + 1)), (2, .int (u + 1)), (4, .int (0)), (0, rf g (1697)), (1, .int (x))]) hx hb dX11_takesBells_88 hl (k := 5) rfl rfl (by decide) rfl (fun ls hl => ?_)
              refine lv_goto (tgt := 10) hx hb dX11_takesBells_91 (by decide) ?_
              exact ih M1022 x (u + 1) (v + 1) 0 (z + 1) h _ _ hW hS ls (lv_sub hl [4, 5, 2, 1, 3, 0] rfl)
            · rw [if_neg c1024] at h
              refine lv_iconst (v := 1) hx hb dX11_takesBells_75 (by decide) ?_
              refine lv_goto (tgt := 80) hx hb dX11_takesBells_76 (by decide) ?_
              refine lv_istore (lv' := [(4, .int (1)), (0, rf g (1697)), (1, .int (x)), (2, .int (u)), (3, .int (v)), (5, .int (z))]) hx hb dX11_takesBells_80 hl (by decide) rfl (fun ls hl => ?_)
              refine lv_iinc (v := u + 1) (lv' := [(2, .int (u + 1)), (4, .int (1)), (0, rf g (1697)), (1, .int (x)), (3, .int (v)), (5, .int (z))]) hx hb dX11_takesBells_82 hl (k := 3) rfl rfl (by decide) rfl (fun ls hl => ?_)
              refine lv_iinc (v := v + 1) (lv' := [(3, .int (v + 1)), (2, .int (u + 1)), (4, .int (1)), (0, rf g (1697)), (1, .int (x)), (5, .int (z))]) hx hb dX11_takesBells_85 hl (k := 4) rfl rfl (by decide) rfl (fun ls hl => ?_)
              refine lv_iinc (v := z + 1) (lv' := [(5, .int (z + 1)), (3, .int (v + 1)), (2, .int (u + 1)), (4, .int (1)), (0, rf g (1697)), (1, .int (x))]) hx hb dX11_takesBells_88 hl (k := 5) rfl rfl (by decide) rfl (fun ls hl => ?_)
              refine lv_goto (tgt := 10) hx hb dX11_takesBells_91 (by decide) ?_
              exact ih M1022 x (u + 1) (v + 1) 1 (z + 1) h _ _ hW hS ls (lv_sub hl [4, 5, 2, 1, 3, 0] rfl)
set_option maxHeartbeats 4000000 in
set_option maxRecDepth 100000 in
theorem c_X11_takesBells (l : Launch) (g : GD) (M : MM) (x : Int32) (r : Int32) (M2 : MM) (h : f_X11_takesBells M x = some (r, M2)) : Met l yX11_takesBells (wm yX11_takesBells cX11_takesBells 6 (some .int)) (RM 2 43) (va_Pc [rf g (1697), .int (x)] (WDp g M)) (QQ g (fun v w0 => v = .int r ∧ M2 = w0)) 0 0 (AA g) := by
  refine mkM (by decide +kernel) (Nat.le_of_ble_eq_true rfl) ?_
  intro p e s m below meth c C hr hlk hW hS ls hl
  have hl : lv_has ls 6 [(0, rf g (1697)), (1, .int (x))] := hl
  have hx := C.1
  have hb := C.2.1
  have hts := C.2.2.2.2.1
  unfold f_X11_takesBells at h
  refine lv_iconst (v := 0) hx hb dX11_takesBells_0 (by decide) ?_
  refine lv_istore_n (lv' := [(2, .int (0)), (0, rf g (1697)), (1, .int (x))]) hx hb dX11_takesBells_1 rfl hl (by decide) rfl (fun ls hl => ?_)
  refine lv_iconst (v := 0) hx hb dX11_takesBells_2 (by decide) ?_
  refine lv_istore_n (lv' := [(3, .int (0)), (2, .int (0)), (0, rf g (1697)), (1, .int (x))]) hx hb dX11_takesBells_3 rfl hl (by decide) rfl (fun ls hl => ?_)
  refine lv_iconst (v := 1) hx hb dX11_takesBells_4 (by decide) ?_
  refine lv_istore (lv' := [(4, .int (1)), (3, .int (0)), (2, .int (0)), (0, rf g (1697)), (1, .int (x))]) hx hb dX11_takesBells_5 hl (by decide) rfl (fun ls hl => ?_)
  refine lv_iconst (v := 0) hx hb dX11_takesBells_7 (by decide) ?_
  refine lv_istore (lv' := [(5, .int (0)), (4, .int (1)), (3, .int (0)), (2, .int (0)), (0, rf g (1697)), (1, .int (x))]) hx hb dX11_takesBells_8 hl (by decide) rfl (fun ls hl => ?_)
  exact t_X11_takesBells_10 l g    FU M x 0 0 1 0 _ _ h C hr hlk _ _ hW hS ls (lv_sub hl [4, 5, 3, 2, 1, 0] rfl)
def lp_X11_wagons_51 (fu : Nat) (M : MM)  (x : Int32) (u : Int32) (z : Int32) (y : Int32) : Option (Int32 × Int32 × Int32 × MM) := match fu with
  | 0 => none
  | n + 1 => (if (u : Int32) ≤ (y : Int32) then some (x, u, z, M) else (if (((z) >>> ((y) &&& 31)) &&& (1) : Int32) = (1 : Int32) then (if vin ((z) &&& (((1) <<< ((y) &&& 31)) ^^^ (-1))) 4096 then (if vin (y) 12 then (bnd2 (f_X11_setting M 6) fun r2005 M2006 => (if ((M 26 ((z) &&& (((1) <<< ((y) &&& 31)) ^^^ (-1)) : Int32).toNatClampNeg) + (M 24 (y : Int32).toNatClampNeg) : Int32) ≤ (r2005 : Int32) then (if vin ((z) &&& (((1) <<< ((y) &&& 31)) ^^^ (-1))) 4096 then (if (0 : Int32) = 0 then (letJ ((M2006 25 ((z) &&& (((1) <<< ((y) &&& 31)) ^^^ (-1)) : Int32).toNatClampNeg) + (0)) fun x2011 => (if (0 : Int32) = 0 then (if vin ((z) &&& (((1) <<< ((y) &&& 31)) ^^^ (-1))) 4096 then (if vin (y) 12 then (letJ ((M2006 26 ((z) &&& (((1) <<< ((y) &&& 31)) ^^^ (-1)) : Int32).toNatClampNeg) + (M2006 24 (y : Int32).toNatClampNeg)) fun x2015 => (if vin (z) 4096 then (if (x2011 : Int32) < (M2006 25 (z : Int32).toNatClampNeg : Int32) then (if (1 : Int32) = 0 then none else (if vin (z) 4096 then (letB (up2 M2006 25 (z : Int32).toNatClampNeg (x2011)) fun M2020 => (if (1 : Int32) = 0 then none else (if vin (z) 4096 then (letB (up2 M2020 26 (z : Int32).toNatClampNeg (x2015)) fun M2023 => (lp_X11_wagons_51 n M2023   x u z (y + 1))) else none))) else none)) else (if vin (z) 4096 then (if (x2011 : Int32) = (M2006 25 (z : Int32).toNatClampNeg : Int32) then (if vin (z) 4096 then (if (M2006 26 (z : Int32).toNatClampNeg : Int32) ≤ (x2015 : Int32) then (if (0 : Int32) = 0 then (if vin (z) 4096 then (if vin (z) 4096 then (letB (up2 M2006 25 (z : Int32).toNatClampNeg (M2006 25 (z : Int32).toNatClampNeg)) fun M2039 => (if (0 : Int32) = 0 then (if vin (z) 4096 then (if vin (z) 4096 then (letB (up2 M2039 26 (z : Int32).toNatClampNeg (M2039 26 (z : Int32).toNatClampNeg)) fun M2043 => (lp_X11_wagons_51 n M2043   x u z (y + 1))) else none) else none) else none)) else none) else none) else none) else (if (1 : Int32) = 0 then none else (if vin (z) 4096 then (letB (up2 M2006 25 (z : Int32).toNatClampNeg (x2011)) fun M2046 => (if (1 : Int32) = 0 then none else (if vin (z) 4096 then (letB (up2 M2046 26 (z : Int32).toNatClampNeg (x2015)) fun M2049 => (lp_X11_wagons_51 n M2049   x u z (y + 1))) else none))) else none))) else none) else (if (0 : Int32) = 0 then (if vin (z) 4096 then (if vin (z) 4096 then (letB (up2 M2006 25 (z : Int32).toNatClampNeg (M2006 25 (z : Int32).toNatClampNeg)) fun M2029 => (if (0 : Int32) = 0 then (if vin (z) 4096 then (if vin (z) 4096 then (letB (up2 M2029 26 (z : Int32).toNatClampNeg (M2029 26 (z : Int32).toNatClampNeg)) fun M2033 => (lp_X11_wagons_51 n M2033   x u z (y + 1))) else none) else none) else none)) else none) else none) else none)) else none)) else none)) else none) else none) else none)) else none) else none) else (if vin ((z) &&& (((1) <<< ((y) &&& 31)) ^^^ (-1))) 4096 then (if (1 : Int32) = 0 then none else (letJ ((M2006 25 ((z) &&& (((1) <<< ((y) &&& 31)) ^^^ (-1)) : Int32).toNatClampNeg) + (1)) fun x2052 => (if (1 : Int32) = 0 then none else (if vin (y) 12 then (if vin (z) 4096 then (if (x2052 : Int32) < (M2006 25 (z : Int32).toNatClampNeg : Int32) then (if (1 : Int32) = 0 then none else (if vin (z) 4096 then (letB (up2 M2006 25 (z : Int32).toNatClampNeg (x2052)) fun M2059 => (if (1 : Int32) = 0 then none else (if vin (z) 4096 then (letB (up2 M2059 26 (z : Int32).toNatClampNeg (M2006 24 (y : Int32).toNatClampNeg)) fun M2062 => (lp_X11_wagons_51 n M2062   x u z (y + 1))) else none))) else none)) else (if vin (z) 4096 then (if (x2052 : Int32) = (M2006 25 (z : Int32).toNatClampNeg : Int32) then (if vin (z) 4096 then (if (M2006 26 (z : Int32).toNatClampNeg : Int32) ≤ (M2006 24 (y : Int32).toNatClampNeg : Int32) then (if (0 : Int32) = 0 then (if vin (z) 4096 then (if vin (z) 4096 then (letB (up2 M2006 25 (z : Int32).toNatClampNeg (M2006 25 (z : Int32).toNatClampNeg)) fun M2078 => (if (0 : Int32) = 0 then (if vin (z) 4096 then (if vin (z) 4096 then (letB (up2 M2078 26 (z : Int32).toNatClampNeg (M2078 26 (z : Int32).toNatClampNeg)) fun M2082 => (lp_X11_wagons_51 n M2082   x u z (y + 1))) else none) else none) else none)) else none) else none) else none) else (if (1 : Int32) = 0 then none else (if vin (z) 4096 then (letB (up2 M2006 25 (z : Int32).toNatClampNeg (x2052)) fun M2085 => (if (1 : Int32) = 0 then none else (if vin (z) 4096 then (letB (up2 M2085 26 (z : Int32).toNatClampNeg (M2006 24 (y : Int32).toNatClampNeg)) fun M2088 => (lp_X11_wagons_51 n M2088   x u z (y + 1))) else none))) else none))) else none) else (if (0 : Int32) = 0 then (if vin (z) 4096 then (if vin (z) 4096 then (letB (up2 M2006 25 (z : Int32).toNatClampNeg (M2006 25 (z : Int32).toNatClampNeg)) fun M2068 => (if (0 : Int32) = 0 then (if vin (z) 4096 then (if vin (z) 4096 then (letB (up2 M2068 26 (z : Int32).toNatClampNeg (M2068 26 (z : Int32).toNatClampNeg)) fun M2072 => (lp_X11_wagons_51 n M2072   x u z (y + 1))) else none) else none) else none)) else none) else none) else none)) else none)) else none) else none)))) else none))) else none) else none) else (lp_X11_wagons_51 n M   x u z (y + 1))))
def lp_X11_wagons_33 (fu : Nat) (M : MM)  (x : Int32) (u : Int32) (z : Int32) : Option (Int32 × MM) := match fu with
  | 0 => none
  | n + 1 => (if ((1) <<< ((u) &&& 31) : Int32) ≤ (z : Int32) then (if vin (((1) <<< ((u) &&& 31)) - (1)) 4096 then some (M 25 (((1) <<< ((u) &&& 31)) - (1) : Int32).toNatClampNeg, M) else none) else (if vin (z) 4096 then (letB (up2 M 25 (z : Int32).toNatClampNeg (13)) fun M1004 => (bnd4 (lp_X11_wagons_51 FU M1004   x u z 0) fun y1005 y1006 y1007 M1008 => (lp_X11_wagons_33 n M1008   y1005 y1006 (y1007 + 1)))) else none))
def f_X11_wagons (M : MM) (x : Int32) : Option (Int32 × MM) := (bnd2 (f_X11_takesBells M x) fun r1 M2 => (if 0 < (r1 : Int32) then (if vin (0) 4096 then (letB (up2 M2 25 (0 : Int32).toNatClampNeg (0)) fun M6 => (bnd2 (f_X11_setting M6 6) fun r7 M8 => (if vin (0) 4096 then (letB (up2 M8 26 (0 : Int32).toNatClampNeg (r7)) fun M11 => (lp_X11_wagons_33 FU M11   x r1 1)) else none))) else none) else some (r1, M2)))
set_option maxHeartbeats 4000000 in
set_option maxRecDepth 100000 in
theorem t_X11_wagons_51 (l : Launch) (g : GD) {p : Program} {e : Env} {s : State} {m : MethodId} {av : Array Value} {below : List Frame} {meth : Method} {c : Code} {Q : State → Prop}  (n : Nat) : ∀ (M : MM) (x : Int32) (u : Int32) (z : Int32) (y : Int32) (o0 : Int32) (o1 : Int32) (o2 : Int32) (M2 : MM), lp_X11_wagons_51 n M   x u z y = some (o0, o1, o2, M2) → CX p s m av c cX11_wagons 10 RX11 g → ∀ (H : Heap) (locs : List Loc), Wd g M H → sS g s H locs → ∀ ls : Array Slot, lv_has ls 10 [(0, rf g (1697)), (1, .int (x)), (2, .int (u)), (3, .int (z)), (4, .int (y))] → (∀ (H : Heap) (locs : List Loc), Wd g M2 H → sS g s H locs → ∀ ls : Array Slot, lv_has ls 10 [(0, rf g (1697)), (1, .int (o0)), (2, .int (o1)), (3, .int (o2))] → W p l e (RM 3 68) s m av below meth c H locs 0 0 Q (F0 m 250 ls [])) → W p l e (RM 3 68) s m av below meth c H locs 0 0 Q (F0 m 51 ls []) := by
  induction n with
  | zero => intro M x u z y o0 o1 o2 M2 h; cases h
  | succ n ih0 =>
    intro M x u z y o0 o1 o2 M2 h C H locs hW hS ls hl kx
    have ih : ∀ (M : MM) (x : Int32) (u : Int32) (z : Int32) (y : Int32), lp_X11_wagons_51 n M   x u z y = some (o0, o1, o2, M2) → ∀ (H : Heap) (locs : List Loc), Wd g M H → sS g s H locs → ∀ ls : Array Slot, lv_has ls 10 [(0, rf g (1697)), (1, .int (x)), (2, .int (u)), (3, .int (z)), (4, .int (y))] → (∀ (H : Heap) (locs : List Loc), Wd g M2 H → sS g s H locs → ∀ ls : Array Slot, lv_has ls 10 [(0, rf g (1697)), (1, .int (o0)), (2, .int (o1)), (3, .int (o2))] → W p l e (RM 3 68) s m av below meth c H locs 0 0 Q (F0 m 250 ls [])) → W p l e (RM 3 68) s m av below meth c H locs 0 0 Q (F0 m 51 ls []) := fun M x u z y h H locs hW hS ls hl kx => ih0 M x u z y o0 o1 o2 M2 h C H locs hW hS ls hl kx
    unfold lp_X11_wagons_51 at h
    try dsimp only at h
    have hx := C.1
    have hb := C.2.1
    have hts := C.2.2.2.2.1
    refine lv_iload hx hb dX11_wagons_51 (lv_at hl 4 rfl) ?_
    refine lv_iload_n hx hb dX11_wagons_53 rfl (lv_at hl 2 rfl) ?_
    refine lv_icmp_ge (tgt := 250) hx hb dX11_wagons_54 (by decide) (fun c2001 => ?_) (fun c2001 => ?_)
    · rw [if_pos c2001] at h
      cases h
      exact kx _ _ hW hS ls (lv_sub hl [0, 1, 2, 3] rfl)
    · rw [if_neg c2001] at h
      refine lv_iload_n hx hb dX11_wagons_57 rfl (lv_at hl 3 rfl) ?_
      refine lv_iload hx hb dX11_wagons_58 (lv_at hl 4 rfl) ?_
      refine lv_ishr hx hb dX11_wagons_60 ?_
      refine lv_iconst (v := 1) hx hb dX11_wagons_61 (by decide) ?_
      refine lv_iand hx hb dX11_wagons_62 ?_
      refine lv_iconst (v := 1) hx hb dX11_wagons_63 (by decide) ?_
      refine lv_icmp_ne (tgt := 244) hx hb dX11_wagons_64 (by decide) (fun c2002 => ?_) (fun c2002 => ?_)
      · rw [if_neg c2002] at h
        refine lv_iinc (v := y + 1) (lv' := [(4, .int (y + 1)), (0, rf g (1697)), (1, .int (x)), (2, .int (u)), (3, .int (z))]) hx hb dX11_wagons_244 hl (k := 4) rfl rfl (by decide) rfl (fun ls hl => ?_)
        refine lv_goto (tgt := 51) hx hb dX11_wagons_247 (by decide) ?_
        exact ih M x u z (y + 1) h _ _ hW hS ls (lv_sub hl [1, 2, 3, 4, 0] rfl) kx
      · rw [if_pos c2002] at h
        refine lv_iload_n hx hb dX11_wagons_67 rfl (lv_at hl 3 rfl) ?_
        refine lv_iconst (v := 1) hx hb dX11_wagons_68 (by decide) ?_
        refine lv_iload hx hb dX11_wagons_69 (lv_at hl 4 rfl) ?_
        refine lv_ishl hx hb dX11_wagons_71 ?_
        refine lv_iconst (v := -1) hx hb dX11_wagons_72 (by decide) ?_
        refine lv_ixor hx hb dX11_wagons_73 ?_
        refine lv_iand hx hb dX11_wagons_74 ?_
        refine lv_istore (lv' := [(5, .int ((z) &&& (((1) <<< ((y) &&& 31)) ^^^ (-1)))), (0, rf g (1697)), (1, .int (x)), (2, .int (u)), (3, .int (z)), (4, .int (y))]) hx hb dX11_wagons_75 hl (by decide) rfl (fun ls hl => ?_)
        refine lv_aload_n hx hb dX11_wagons_77 rfl (lv_at hl 1 rfl) ?_
        refine rGet (k := 6) C hW (by decide) tm_Model rfl inX11 (by decide) fl_X11_25 rfl dX11_wagons_78 ?_
        refine lv_iload hx hb dX11_wagons_81 (lv_at hl 0 rfl) ?_
        have s2003 : vin ((z) &&& (((1) <<< ((y) &&& 31)) ^^^ (-1))) 4096 := Classical.byContradiction fun q9 => by rw [if_neg q9] at h; cases h
        rw [if_pos s2003] at h
        refine rIld C hW (by decide) tm_lastOf s2003 dX11_wagons_83 ?_
        refine lv_aload_n hx hb dX11_wagons_84 rfl (lv_at hl 1 rfl) ?_
        refine rGet (k := 4) C hW (by decide) tm_Model rfl inX11 (by decide) fl_X11_19 rfl dX11_wagons_85 ?_
        refine lv_iload hx hb dX11_wagons_88 (lv_at hl 5 rfl) ?_
        have s2004 : vin (y) 12 := Classical.byContradiction fun q9 => by rw [if_neg q9] at h; cases h
        rw [if_pos s2004] at h
        refine rIld C hW (by decide) tm_loads s2004 dX11_wagons_90 ?_
        refine lv_iadd hx hb dX11_wagons_91 ?_
        refine lv_aload_n hx hb dX11_wagons_92 rfl (lv_at hl 1 rfl) ?_
        refine lv_bipush (v := 6) hx hb dX11_wagons_93 (by decide) ?_
        obtain ⟨r2005, M2006, h2007, h⟩ := bind2 h
        refine cBack C.2.2.2.2.2.2.2.2 (runV (As := [.int (6)]) (rest := [.int ((M 26 ((z) &&& (((1) <<< ((y) &&& 31)) ^^^ (-1)) : Int32).toNatClampNeg) + (M 24 (y : Int32).toNatClampNeg))]) C hW hS (c_X11_setting l g M 6 _ _ h2007) kV_X11_setting ml_X11_61 (by decide) tm_Model rfl rfl rfl hl.1 rfl (Nat.le_of_ble_eq_true rfl) ⟨Nat.le_of_ble_eq_true rfl, Nat.le_of_ble_eq_true rfl⟩ ⟨Nat.zero_le _, Nat.zero_le _⟩ dX11_wagons_95) hS (fun v0 w0 H locs hp hW hS => ?_)
        obtain ⟨rfl, rfl⟩ := hp
        refine lv_icmp_le (tgt := 105) hx hb dX11_wagons_98 (by decide) (fun c2008 => ?_) (fun c2008 => ?_)
        · rw [if_pos c2008] at h
          refine lv_iconst (v := 0) hx hb dX11_wagons_105 (by decide) ?_
          refine lv_istore (lv' := [(6, .int (0)), (5, .int ((z) &&& (((1) <<< ((y) &&& 31)) ^^^ (-1)))), (0, rf g (1697)), (1, .int (x)), (2, .int (u)), (3, .int (z)), (4, .int (y))]) hx hb dX11_wagons_106 hl (by decide) rfl (fun ls hl => ?_)
          refine lv_aload_n hx hb dX11_wagons_108 rfl (lv_at hl 2 rfl) ?_
          refine rGet (k := 5) C hW (by decide) tm_Model rfl inX11 (by decide) fl_X11_22 rfl dX11_wagons_109 ?_
          refine lv_iload hx hb dX11_wagons_112 (lv_at hl 1 rfl) ?_
          have s2009 : vin ((z) &&& (((1) <<< ((y) &&& 31)) ^^^ (-1))) 4096 := Classical.byContradiction fun q9 => by rw [if_neg q9] at h; cases h
          rw [if_pos s2009] at h
          refine rIld C hW (by decide) tm_wagonsOf s2009 dX11_wagons_114 ?_
          refine lv_iload hx hb dX11_wagons_115 (lv_at hl 0 rfl) ?_
          refine lv_if_eq (tgt := 124) hx hb dX11_wagons_117 (by decide) (fun c2010 => ?_) (fun c2010 => ?_)
          · rw [if_pos c2010] at h
            refine lv_iconst (v := 0) hx hb dX11_wagons_124 (by decide) ?_
            refine lv_iadd hx hb dX11_wagons_125 ?_
            refine lv_topi (fun x2011 ex2011 => ?_)
            have ex2011 : x2011 = (M2006 25 ((z) &&& (((1) <<< ((y) &&& 31)) ^^^ (-1)) : Int32).toNatClampNeg) + (0) := ex2011
            have h := letEJ h
            try rw [← ex2011] at h
            refine lv_istore (lv' := [(7, .int (x2011)), (6, .int (0)), (5, .int ((z) &&& (((1) <<< ((y) &&& 31)) ^^^ (-1)))), (0, rf g (1697)), (1, .int (x)), (2, .int (u)), (3, .int (z)), (4, .int (y))]) hx hb dX11_wagons_126 hl (by decide) rfl (fun ls hl => ?_)
            refine lv_iload hx hb dX11_wagons_128 (lv_at hl 1 rfl) ?_
            refine lv_if_eq (tgt := 143) hx hb dX11_wagons_130 (by decide) (fun c2012 => ?_) (fun c2012 => ?_)
            · rw [if_pos c2012] at h
              refine lv_aload_n hx hb dX11_wagons_143 rfl (lv_at hl 3 rfl) ?_
              refine rGet (k := 6) C hW (by decide) tm_Model rfl inX11 (by decide) fl_X11_25 rfl dX11_wagons_144 ?_
              refine lv_iload hx hb dX11_wagons_147 (lv_at hl 2 rfl) ?_
              have s2013 : vin ((z) &&& (((1) <<< ((y) &&& 31)) ^^^ (-1))) 4096 := Classical.byContradiction fun q9 => by rw [if_neg q9] at h; cases h
              rw [if_pos s2013] at h
              refine rIld C hW (by decide) tm_lastOf s2013 dX11_wagons_149 ?_
              refine lv_aload_n hx hb dX11_wagons_150 rfl (lv_at hl 3 rfl) ?_
              refine rGet (k := 4) C hW (by decide) tm_Model rfl inX11 (by decide) fl_X11_19 rfl dX11_wagons_151 ?_
              refine lv_iload hx hb dX11_wagons_154 (lv_at hl 7 rfl) ?_
              have s2014 : vin (y) 12 := Classical.byContradiction fun q9 => by rw [if_neg q9] at h; cases h
              rw [if_pos s2014] at h
              refine rIld C hW (by decide) tm_loads s2014 dX11_wagons_156 ?_
              refine lv_iadd hx hb dX11_wagons_157 ?_
              refine lv_topi (fun x2015 ex2015 => ?_)
              have ex2015 : x2015 = (M2006 26 ((z) &&& (((1) <<< ((y) &&& 31)) ^^^ (-1)) : Int32).toNatClampNeg) + (M2006 24 (y : Int32).toNatClampNeg) := ex2015
              have h := letEJ h
              try rw [← ex2015] at h
              refine lv_istore (lv' := [(8, .int (x2015)), (7, .int (x2011)), (6, .int (0)), (5, .int ((z) &&& (((1) <<< ((y) &&& 31)) ^^^ (-1)))), (0, rf g (1697)), (1, .int (x)), (2, .int (u)), (3, .int (z)), (4, .int (y))]) hx hb dX11_wagons_158 hl (by decide) rfl (fun ls hl => ?_)
              refine lv_iload hx hb dX11_wagons_160 (lv_at hl 1 rfl) ?_
              refine lv_aload_n hx hb dX11_wagons_162 rfl (lv_at hl 4 rfl) ?_
              refine rGet (k := 5) C hW (by decide) tm_Model rfl inX11 (by decide) fl_X11_22 rfl dX11_wagons_163 ?_
              refine lv_iload_n hx hb dX11_wagons_166 rfl (lv_at hl 7 rfl) ?_
              have s2016 : vin (z) 4096 := Classical.byContradiction fun q9 => by rw [if_neg q9] at h; cases h
              rw [if_pos s2016] at h
              refine rIld C hW (by decide) tm_wagonsOf s2016 dX11_wagons_167 ?_
              refine lv_icmp_lt (tgt := 193) hx hb dX11_wagons_168 (by decide) (fun c2017 => ?_) (fun c2017 => ?_)
              · rw [if_pos c2017] at h
                refine lv_iconst (v := 1) hx hb dX11_wagons_193 (by decide) ?_
                refine lv_goto (tgt := 198) hx hb dX11_wagons_194 (by decide) ?_
                refine lv_istore (lv' := [(9, .int (1)), (8, .int (x2015)), (7, .int (x2011)), (6, .int (0)), (5, .int ((z) &&& (((1) <<< ((y) &&& 31)) ^^^ (-1)))), (0, rf g (1697)), (1, .int (x)), (2, .int (u)), (3, .int (z)), (4, .int (y))]) hx hb dX11_wagons_198 hl (by decide) rfl (fun ls hl => ?_)
                refine lv_aload_n hx hb dX11_wagons_200 rfl (lv_at hl 5 rfl) ?_
                refine rGet (k := 5) C hW (by decide) tm_Model rfl inX11 (by decide) fl_X11_22 rfl dX11_wagons_201 ?_
                refine lv_iload_n hx hb dX11_wagons_204 rfl (lv_at hl 8 rfl) ?_
                refine lv_iload hx hb dX11_wagons_205 (lv_at hl 0 rfl) ?_
                refine lv_if_eq (tgt := 215) hx hb dX11_wagons_207 (by decide) (fun c2018 => ?_) (fun c2018 => ?_)
                · rw [if_pos c2018] at h
                  cases h
                · rw [if_neg c2018] at h
                  refine lv_iload hx hb dX11_wagons_210 (lv_at hl 2 rfl) ?_
                  refine lv_goto (tgt := 221) hx hb dX11_wagons_212 (by decide) ?_
                  have s2019 : vin (z) 4096 := Classical.byContradiction fun q9 => by rw [if_neg q9] at h; cases h
                  rw [if_pos s2019] at h
                  refine rIst (M' := up2 M2006 25 (z : Int32).toNatClampNeg (x2011)) C hW hS (by decide) tm_wagonsOf s2019 (UPD_G (by decide) rfl (by rw [tm_wagonsOf, up2_gr])) dX11_wagons_221 (fun H locs hW hS => ?_)
                  have hW : Wd g (up2 M2006 25 (z : Int32).toNatClampNeg (x2011)) H := hW
                  have h := letE h
                  generalize up2 M2006 25 (z : Int32).toNatClampNeg (x2011) = M2020 at hW h
                  refine lv_aload_n hx hb dX11_wagons_222 rfl (lv_at hl 5 rfl) ?_
                  refine rGet (k := 6) C hW (by decide) tm_Model rfl inX11 (by decide) fl_X11_25 rfl dX11_wagons_223 ?_
                  refine lv_iload_n hx hb dX11_wagons_226 rfl (lv_at hl 8 rfl) ?_
                  refine lv_iload hx hb dX11_wagons_227 (lv_at hl 0 rfl) ?_
                  refine lv_if_eq (tgt := 237) hx hb dX11_wagons_229 (by decide) (fun c2021 => ?_) (fun c2021 => ?_)
                  · rw [if_pos c2021] at h
                    cases h
                  · rw [if_neg c2021] at h
                    refine lv_iload hx hb dX11_wagons_232 (lv_at hl 1 rfl) ?_
                    refine lv_goto (tgt := 243) hx hb dX11_wagons_234 (by decide) ?_
                    have s2022 : vin (z) 4096 := Classical.byContradiction fun q9 => by rw [if_neg q9] at h; cases h
                    rw [if_pos s2022] at h
                    refine rIst (M' := up2 M2020 26 (z : Int32).toNatClampNeg (x2015)) C hW hS (by decide) tm_lastOf s2022 (UPD_G (by decide) rfl (by rw [tm_lastOf, up2_gr])) dX11_wagons_243 (fun H locs hW hS => ?_)
                    have hW : Wd g (up2 M2020 26 (z : Int32).toNatClampNeg (x2015)) H := hW
                    have h := letE h
                    generalize up2 M2020 26 (z : Int32).toNatClampNeg (x2015) = M2023 at hW h
                    refine lv_iinc (v := y + 1) (lv' := [(4, .int (y + 1)), (9, .int (1)), (8, .int (x2015)), (7, .int (x2011)), (6, .int (0)), (5, .int ((z) &&& (((1) <<< ((y) &&& 31)) ^^^ (-1)))), (0, rf g (1697)), (1, .int (x)), (2, .int (u)), (3, .int (z))]) hx hb dX11_wagons_244 hl (k := 9) rfl rfl (by decide) rfl (fun ls hl => ?_)
                    refine lv_goto (tgt := 51) hx hb dX11_wagons_247 (by decide) ?_
                    exact ih M2023 x u z (y + 1) h _ _ hW hS ls (lv_sub hl [6, 7, 8, 9, 0] rfl) kx
              · rw [if_neg c2017] at h
                refine lv_iload hx hb dX11_wagons_171 (lv_at hl 1 rfl) ?_
                refine lv_aload_n hx hb dX11_wagons_173 rfl (lv_at hl 4 rfl) ?_
                refine rGet (k := 5) C hW (by decide) tm_Model rfl inX11 (by decide) fl_X11_22 rfl dX11_wagons_174 ?_
                refine lv_iload_n hx hb dX11_wagons_177 rfl (lv_at hl 7 rfl) ?_
                have s2024 : vin (z) 4096 := Classical.byContradiction fun q9 => by rw [if_neg q9] at h; cases h
                rw [if_pos s2024] at h
                refine rIld C hW (by decide) tm_wagonsOf s2024 dX11_wagons_178 ?_
                refine lv_icmp_ne (tgt := 197) hx hb dX11_wagons_179 (by decide) (fun c2025 => ?_) (fun c2025 => ?_)
                · rw [if_neg c2025] at h
                  refine lv_iconst (v := 0) hx hb dX11_wagons_197 (by decide) ?_
                  refine lv_istore (lv' := [(9, .int (0)), (8, .int (x2015)), (7, .int (x2011)), (6, .int (0)), (5, .int ((z) &&& (((1) <<< ((y) &&& 31)) ^^^ (-1)))), (0, rf g (1697)), (1, .int (x)), (2, .int (u)), (3, .int (z)), (4, .int (y))]) hx hb dX11_wagons_198 hl (by decide) rfl (fun ls hl => ?_)
                  refine lv_aload_n hx hb dX11_wagons_200 rfl (lv_at hl 5 rfl) ?_
                  refine rGet (k := 5) C hW (by decide) tm_Model rfl inX11 (by decide) fl_X11_22 rfl dX11_wagons_201 ?_
                  refine lv_iload_n hx hb dX11_wagons_204 rfl (lv_at hl 8 rfl) ?_
                  refine lv_iload hx hb dX11_wagons_205 (lv_at hl 0 rfl) ?_
                  refine lv_if_eq (tgt := 215) hx hb dX11_wagons_207 (by decide) (fun c2026 => ?_) (fun c2026 => ?_)
                  · rw [if_pos c2026] at h
                    refine lv_aload_n hx hb dX11_wagons_215 rfl (lv_at hl 5 rfl) ?_
                    refine rGet (k := 5) C hW (by decide) tm_Model rfl inX11 (by decide) fl_X11_22 rfl dX11_wagons_216 ?_
                    refine lv_iload_n hx hb dX11_wagons_219 rfl (lv_at hl 8 rfl) ?_
                    have s2027 : vin (z) 4096 := Classical.byContradiction fun q9 => by rw [if_neg q9] at h; cases h
                    rw [if_pos s2027] at h
                    refine rIld C hW (by decide) tm_wagonsOf s2027 dX11_wagons_220 ?_
                    have s2028 : vin (z) 4096 := Classical.byContradiction fun q9 => by rw [if_neg q9] at h; cases h
                    rw [if_pos s2028] at h
                    refine rIst (M' := up2 M2006 25 (z : Int32).toNatClampNeg (M2006 25 (z : Int32).toNatClampNeg)) C hW hS (by decide) tm_wagonsOf s2028 (UPD_G (by decide) rfl (by rw [tm_wagonsOf, up2_gr])) dX11_wagons_221 (fun H locs hW hS => ?_)
                    have hW : Wd g (up2 M2006 25 (z : Int32).toNatClampNeg (M2006 25 (z : Int32).toNatClampNeg)) H := hW
                    have h := letE h
                    generalize up2 M2006 25 (z : Int32).toNatClampNeg (M2006 25 (z : Int32).toNatClampNeg) = M2029 at hW h
                    refine lv_aload_n hx hb dX11_wagons_222 rfl (lv_at hl 5 rfl) ?_
                    refine rGet (k := 6) C hW (by decide) tm_Model rfl inX11 (by decide) fl_X11_25 rfl dX11_wagons_223 ?_
                    refine lv_iload_n hx hb dX11_wagons_226 rfl (lv_at hl 8 rfl) ?_
                    refine lv_iload hx hb dX11_wagons_227 (lv_at hl 0 rfl) ?_
                    refine lv_if_eq (tgt := 237) hx hb dX11_wagons_229 (by decide) (fun c2030 => ?_) (fun c2030 => ?_)
                    · rw [if_pos c2030] at h
                      refine lv_aload_n hx hb dX11_wagons_237 rfl (lv_at hl 5 rfl) ?_
                      refine rGet (k := 6) C hW (by decide) tm_Model rfl inX11 (by decide) fl_X11_25 rfl dX11_wagons_238 ?_
                      refine lv_iload_n hx hb dX11_wagons_241 rfl (lv_at hl 8 rfl) ?_
                      have s2031 : vin (z) 4096 := Classical.byContradiction fun q9 => by rw [if_neg q9] at h; cases h
                      rw [if_pos s2031] at h
                      refine rIld C hW (by decide) tm_lastOf s2031 dX11_wagons_242 ?_
                      have s2032 : vin (z) 4096 := Classical.byContradiction fun q9 => by rw [if_neg q9] at h; cases h
                      rw [if_pos s2032] at h
                      refine rIst (M' := up2 M2029 26 (z : Int32).toNatClampNeg (M2029 26 (z : Int32).toNatClampNeg)) C hW hS (by decide) tm_lastOf s2032 (UPD_G (by decide) rfl (by rw [tm_lastOf, up2_gr])) dX11_wagons_243 (fun H locs hW hS => ?_)
                      have hW : Wd g (up2 M2029 26 (z : Int32).toNatClampNeg (M2029 26 (z : Int32).toNatClampNeg)) H := hW
                      have h := letE h
                      generalize up2 M2029 26 (z : Int32).toNatClampNeg (M2029 26 (z : Int32).toNatClampNeg) = M2033 at hW h
                      refine lv_iinc (v := y + 1) (lv' := [(4, .int (y + 1)), (9, .int (0)), (8, .int (x2015)), (7, .int (x2011)), (6, .int (0)), (5, .int ((z) &&& (((1) <<< ((y) &&& 31)) ^^^ (-1)))), (0, rf g (1697)), (1, .int (x)), (2, .int (u)), (3, .int (z))]) hx hb dX11_wagons_244 hl (k := 9) rfl rfl (by decide) rfl (fun ls hl => ?_)
                      refine lv_goto (tgt := 51) hx hb dX11_wagons_247 (by decide) ?_
                      exact ih M2033 x u z (y + 1) h _ _ hW hS ls (lv_sub hl [6, 7, 8, 9, 0] rfl) kx
                    · rw [if_neg c2030] at h
                      cases h
                  · rw [if_neg c2026] at h
                    cases h
                · rw [if_pos c2025] at h
                  refine lv_iload hx hb dX11_wagons_182 (lv_at hl 0 rfl) ?_
                  refine lv_aload_n hx hb dX11_wagons_184 rfl (lv_at hl 4 rfl) ?_
                  refine rGet (k := 6) C hW (by decide) tm_Model rfl inX11 (by decide) fl_X11_25 rfl dX11_wagons_185 ?_
                  refine lv_iload_n hx hb dX11_wagons_188 rfl (lv_at hl 7 rfl) ?_
                  have s2034 : vin (z) 4096 := Classical.byContradiction fun q9 => by rw [if_neg q9] at h; cases h
                  rw [if_pos s2034] at h
                  refine rIld C hW (by decide) tm_lastOf s2034 dX11_wagons_189 ?_
                  refine lv_icmp_ge (tgt := 197) hx hb dX11_wagons_190 (by decide) (fun c2035 => ?_) (fun c2035 => ?_)
                  · rw [if_pos c2035] at h
                    refine lv_iconst (v := 0) hx hb dX11_wagons_197 (by decide) ?_
                    refine lv_istore (lv' := [(9, .int (0)), (8, .int (x2015)), (7, .int (x2011)), (6, .int (0)), (5, .int ((z) &&& (((1) <<< ((y) &&& 31)) ^^^ (-1)))), (0, rf g (1697)), (1, .int (x)), (2, .int (u)), (3, .int (z)), (4, .int (y))]) hx hb dX11_wagons_198 hl (by decide) rfl (fun ls hl => ?_)
                    refine lv_aload_n hx hb dX11_wagons_200 rfl (lv_at hl 5 rfl) ?_
                    refine rGet (k := 5) C hW (by decide) tm_Model rfl inX11 (by decide) fl_X11_22 rfl dX11_wagons_201 ?_
                    refine lv_iload_n hx hb dX11_wagons_204 rfl (lv_at hl 8 rfl) ?_
                    refine lv_iload hx hb dX11_wagons_205 (lv_at hl 0 rfl) ?_
                    refine lv_if_eq (tgt := 215) hx hb dX11_wagons_207 (by decide) (fun c2036 => ?_) (fun c2036 => ?_)
                    · rw [if_pos c2036] at h
                      refine lv_aload_n hx hb dX11_wagons_215 rfl (lv_at hl 5 rfl) ?_
                      refine rGet (k := 5) C hW (by decide) tm_Model rfl inX11 (by decide) fl_X11_22 rfl dX11_wagons_216 ?_
                      refine lv_iload_n hx hb dX11_wagons_219 rfl (lv_at hl 8 rfl) ?_
                      have s2037 : vin (z) 4096 := Classical.byContradiction fun q9 => by rw [if_neg q9] at h; cases h
                      rw [if_pos s2037] at h
                      refine rIld C hW (by decide) tm_wagonsOf s2037 dX11_wagons_220 ?_
                      have s2038 : vin (z) 4096 := Classical.byContradiction fun q9 => by rw [if_neg q9] at h; cases h
                      rw [if_pos s2038] at h
                      refine rIst (M' := up2 M2006 25 (z : Int32).toNatClampNeg (M2006 25 (z : Int32).toNatClampNeg)) C hW hS (by decide) tm_wagonsOf s2038 (UPD_G (by decide) rfl (by rw [tm_wagonsOf, up2_gr])) dX11_wagons_221 (fun H locs hW hS => ?_)
                      have hW : Wd g (up2 M2006 25 (z : Int32).toNatClampNeg (M2006 25 (z : Int32).toNatClampNeg)) H := hW
                      have h := letE h
                      generalize up2 M2006 25 (z : Int32).toNatClampNeg (M2006 25 (z : Int32).toNatClampNeg) = M2039 at hW h
                      refine lv_aload_n hx hb dX11_wagons_222 rfl (lv_at hl 5 rfl) ?_
                      refine rGet (k := 6) C hW (by decide) tm_Model rfl inX11 (by decide) fl_X11_25 rfl dX11_wagons_223 ?_
                      refine lv_iload_n hx hb dX11_wagons_226 rfl (lv_at hl 8 rfl) ?_
                      refine lv_iload hx hb dX11_wagons_227 (lv_at hl 0 rfl) ?_
                      refine lv_if_eq (tgt := 237) hx hb dX11_wagons_229 (by decide) (fun c2040 => ?_) (fun c2040 => ?_)
                      · rw [if_pos c2040] at h
                        refine lv_aload_n hx hb dX11_wagons_237 rfl (lv_at hl 5 rfl) ?_
                        refine rGet (k := 6) C hW (by decide) tm_Model rfl inX11 (by decide) fl_X11_25 rfl dX11_wagons_238 ?_
                        refine lv_iload_n hx hb dX11_wagons_241 rfl (lv_at hl 8 rfl) ?_
                        have s2041 : vin (z) 4096 := Classical.byContradiction fun q9 => by rw [if_neg q9] at h; cases h
                        rw [if_pos s2041] at h
                        refine rIld C hW (by decide) tm_lastOf s2041 dX11_wagons_242 ?_
                        have s2042 : vin (z) 4096 := Classical.byContradiction fun q9 => by rw [if_neg q9] at h; cases h
                        rw [if_pos s2042] at h
                        refine rIst (M' := up2 M2039 26 (z : Int32).toNatClampNeg (M2039 26 (z : Int32).toNatClampNeg)) C hW hS (by decide) tm_lastOf s2042 (UPD_G (by decide) rfl (by rw [tm_lastOf, up2_gr])) dX11_wagons_243 (fun H locs hW hS => ?_)
                        have hW : Wd g (up2 M2039 26 (z : Int32).toNatClampNeg (M2039 26 (z : Int32).toNatClampNeg)) H := hW
                        have h := letE h
                        generalize up2 M2039 26 (z : Int32).toNatClampNeg (M2039 26 (z : Int32).toNatClampNeg) = M2043 at hW h
                        refine lv_iinc (v := y + 1) (lv' := [(4, .int (y + 1)), (9, .int (0)), (8, .int (x2015)), (7, .int (x2011)), (6, .int (0)), (5, .int ((z) &&& (((1) <<< ((y) &&& 31)) ^^^ (-1)))), (0, rf g (1697)), (1, .int (x)), (2, .int (u)), (3, .int (z))]) hx hb dX11_wagons_244 hl (k := 9) rfl rfl (by decide) rfl (fun ls hl => ?_)
                        refine lv_goto (tgt := 51) hx hb dX11_wagons_247 (by decide) ?_
                        exact ih M2043 x u z (y + 1) h _ _ hW hS ls (lv_sub hl [6, 7, 8, 9, 0] rfl) kx
                      · rw [if_neg c2040] at h
                        cases h
                    · rw [if_neg c2036] at h
                      cases h
                  · rw [if_neg c2035] at h
                    refine lv_iconst (v := 1) hx hb dX11_wagons_193 (by decide) ?_
                    refine lv_goto (tgt := 198) hx hb dX11_wagons_194 (by decide) ?_
                    refine lv_istore (lv' := [(9, .int (1)), (8, .int (x2015)), (7, .int (x2011)), (6, .int (0)), (5, .int ((z) &&& (((1) <<< ((y) &&& 31)) ^^^ (-1)))), (0, rf g (1697)), (1, .int (x)), (2, .int (u)), (3, .int (z)), (4, .int (y))]) hx hb dX11_wagons_198 hl (by decide) rfl (fun ls hl => ?_)
                    refine lv_aload_n hx hb dX11_wagons_200 rfl (lv_at hl 5 rfl) ?_
                    refine rGet (k := 5) C hW (by decide) tm_Model rfl inX11 (by decide) fl_X11_22 rfl dX11_wagons_201 ?_
                    refine lv_iload_n hx hb dX11_wagons_204 rfl (lv_at hl 8 rfl) ?_
                    refine lv_iload hx hb dX11_wagons_205 (lv_at hl 0 rfl) ?_
                    refine lv_if_eq (tgt := 215) hx hb dX11_wagons_207 (by decide) (fun c2044 => ?_) (fun c2044 => ?_)
                    · rw [if_pos c2044] at h
                      cases h
                    · rw [if_neg c2044] at h
                      refine lv_iload hx hb dX11_wagons_210 (lv_at hl 2 rfl) ?_
                      refine lv_goto (tgt := 221) hx hb dX11_wagons_212 (by decide) ?_
                      have s2045 : vin (z) 4096 := Classical.byContradiction fun q9 => by rw [if_neg q9] at h; cases h
                      rw [if_pos s2045] at h
                      refine rIst (M' := up2 M2006 25 (z : Int32).toNatClampNeg (x2011)) C hW hS (by decide) tm_wagonsOf s2045 (UPD_G (by decide) rfl (by rw [tm_wagonsOf, up2_gr])) dX11_wagons_221 (fun H locs hW hS => ?_)
                      have hW : Wd g (up2 M2006 25 (z : Int32).toNatClampNeg (x2011)) H := hW
                      have h := letE h
                      generalize up2 M2006 25 (z : Int32).toNatClampNeg (x2011) = M2046 at hW h
                      refine lv_aload_n hx hb dX11_wagons_222 rfl (lv_at hl 5 rfl) ?_
                      refine rGet (k := 6) C hW (by decide) tm_Model rfl inX11 (by decide) fl_X11_25 rfl dX11_wagons_223 ?_
                      refine lv_iload_n hx hb dX11_wagons_226 rfl (lv_at hl 8 rfl) ?_
                      refine lv_iload hx hb dX11_wagons_227 (lv_at hl 0 rfl) ?_
                      refine lv_if_eq (tgt := 237) hx hb dX11_wagons_229 (by decide) (fun c2047 => ?_) (fun c2047 => ?_)
                      · rw [if_pos c2047] at h
                        cases h
                      · rw [if_neg c2047] at h
                        refine lv_iload hx hb dX11_wagons_232 (lv_at hl 1 rfl) ?_
                        refine lv_goto (tgt := 243) hx hb dX11_wagons_234 (by decide) ?_
                        have s2048 : vin (z) 4096 := Classical.byContradiction fun q9 => by rw [if_neg q9] at h; cases h
                        rw [if_pos s2048] at h
                        refine rIst (M' := up2 M2046 26 (z : Int32).toNatClampNeg (x2015)) C hW hS (by decide) tm_lastOf s2048 (UPD_G (by decide) rfl (by rw [tm_lastOf, up2_gr])) dX11_wagons_243 (fun H locs hW hS => ?_)
                        have hW : Wd g (up2 M2046 26 (z : Int32).toNatClampNeg (x2015)) H := hW
                        have h := letE h
                        generalize up2 M2046 26 (z : Int32).toNatClampNeg (x2015) = M2049 at hW h
                        refine lv_iinc (v := y + 1) (lv' := [(4, .int (y + 1)), (9, .int (1)), (8, .int (x2015)), (7, .int (x2011)), (6, .int (0)), (5, .int ((z) &&& (((1) <<< ((y) &&& 31)) ^^^ (-1)))), (0, rf g (1697)), (1, .int (x)), (2, .int (u)), (3, .int (z))]) hx hb dX11_wagons_244 hl (k := 9) rfl rfl (by decide) rfl (fun ls hl => ?_)
                        refine lv_goto (tgt := 51) hx hb dX11_wagons_247 (by decide) ?_
                        exact ih M2049 x u z (y + 1) h _ _ hW hS ls (lv_sub hl [6, 7, 8, 9, 0] rfl) kx
            · rw [if_neg c2012] at h
              cases h
          · rw [if_neg c2010] at h
            cases h
        · rw [if_neg c2008] at h
          refine lv_iconst (v := 1) hx hb dX11_wagons_101 (by decide) ?_
          refine lv_goto (tgt := 106) hx hb dX11_wagons_102 (by decide) ?_
          refine lv_istore (lv' := [(6, .int (1)), (5, .int ((z) &&& (((1) <<< ((y) &&& 31)) ^^^ (-1)))), (0, rf g (1697)), (1, .int (x)), (2, .int (u)), (3, .int (z)), (4, .int (y))]) hx hb dX11_wagons_106 hl (by decide) rfl (fun ls hl => ?_)
          refine lv_aload_n hx hb dX11_wagons_108 rfl (lv_at hl 2 rfl) ?_
          refine rGet (k := 5) C hW (by decide) tm_Model rfl inX11 (by decide) fl_X11_22 rfl dX11_wagons_109 ?_
          refine lv_iload hx hb dX11_wagons_112 (lv_at hl 1 rfl) ?_
          have s2050 : vin ((z) &&& (((1) <<< ((y) &&& 31)) ^^^ (-1))) 4096 := Classical.byContradiction fun q9 => by rw [if_neg q9] at h; cases h
          rw [if_pos s2050] at h
          refine rIld C hW (by decide) tm_wagonsOf s2050 dX11_wagons_114 ?_
          refine lv_iload hx hb dX11_wagons_115 (lv_at hl 0 rfl) ?_
          refine lv_if_eq (tgt := 124) hx hb dX11_wagons_117 (by decide) (fun c2051 => ?_) (fun c2051 => ?_)
          · rw [if_pos c2051] at h
            cases h
          · rw [if_neg c2051] at h
            refine lv_iconst (v := 1) hx hb dX11_wagons_120 (by decide) ?_
            refine lv_goto (tgt := 125) hx hb dX11_wagons_121 (by decide) ?_
            refine lv_iadd hx hb dX11_wagons_125 ?_
            refine lv_topi (fun x2052 ex2052 => ?_)
            have ex2052 : x2052 = (M2006 25 ((z) &&& (((1) <<< ((y) &&& 31)) ^^^ (-1)) : Int32).toNatClampNeg) + (1) := ex2052
            have h := letEJ h
            try rw [← ex2052] at h
            refine lv_istore (lv' := [(7, .int (x2052)), (6, .int (1)), (5, .int ((z) &&& (((1) <<< ((y) &&& 31)) ^^^ (-1)))), (0, rf g (1697)), (1, .int (x)), (2, .int (u)), (3, .int (z)), (4, .int (y))]) hx hb dX11_wagons_126 hl (by decide) rfl (fun ls hl => ?_)
            refine lv_iload hx hb dX11_wagons_128 (lv_at hl 1 rfl) ?_
            refine lv_if_eq (tgt := 143) hx hb dX11_wagons_130 (by decide) (fun c2053 => ?_) (fun c2053 => ?_)
            · rw [if_pos c2053] at h
              cases h
            · rw [if_neg c2053] at h
              refine lv_aload_n hx hb dX11_wagons_133 rfl (lv_at hl 3 rfl) ?_
              refine rGet (k := 4) C hW (by decide) tm_Model rfl inX11 (by decide) fl_X11_19 rfl dX11_wagons_134 ?_
              refine lv_iload hx hb dX11_wagons_137 (lv_at hl 7 rfl) ?_
              have s2054 : vin (y) 12 := Classical.byContradiction fun q9 => by rw [if_neg q9] at h; cases h
              rw [if_pos s2054] at h
              refine rIld C hW (by decide) tm_loads s2054 dX11_wagons_139 ?_
              refine lv_goto (tgt := 158) hx hb dX11_wagons_140 (by decide) ?_
              refine lv_istore (lv' := [(8, .int (M2006 24 (y : Int32).toNatClampNeg)), (7, .int (x2052)), (6, .int (1)), (5, .int ((z) &&& (((1) <<< ((y) &&& 31)) ^^^ (-1)))), (0, rf g (1697)), (1, .int (x)), (2, .int (u)), (3, .int (z)), (4, .int (y))]) hx hb dX11_wagons_158 hl (by decide) rfl (fun ls hl => ?_)
              refine lv_iload hx hb dX11_wagons_160 (lv_at hl 1 rfl) ?_
              refine lv_aload_n hx hb dX11_wagons_162 rfl (lv_at hl 4 rfl) ?_
              refine rGet (k := 5) C hW (by decide) tm_Model rfl inX11 (by decide) fl_X11_22 rfl dX11_wagons_163 ?_
              refine lv_iload_n hx hb dX11_wagons_166 rfl (lv_at hl 7 rfl) ?_
              have s2055 : vin (z) 4096 := Classical.byContradiction fun q9 => by rw [if_neg q9] at h; cases h
              rw [if_pos s2055] at h
              refine rIld C hW (by decide) tm_wagonsOf s2055 dX11_wagons_167 ?_
              refine lv_icmp_lt (tgt := 193) hx hb dX11_wagons_168 (by decide) (fun c2056 => ?_) (fun c2056 => ?_)
              · rw [if_pos c2056] at h
                refine lv_iconst (v := 1) hx hb dX11_wagons_193 (by decide) ?_
                refine lv_goto (tgt := 198) hx hb dX11_wagons_194 (by decide) ?_
                refine lv_istore (lv' := [(9, .int (1)), (8, .int (M2006 24 (y : Int32).toNatClampNeg)), (7, .int (x2052)), (6, .int (1)), (5, .int ((z) &&& (((1) <<< ((y) &&& 31)) ^^^ (-1)))), (0, rf g (1697)), (1, .int (x)), (2, .int (u)), (3, .int (z)), (4, .int (y))]) hx hb dX11_wagons_198 hl (by decide) rfl (fun ls hl => ?_)
                refine lv_aload_n hx hb dX11_wagons_200 rfl (lv_at hl 5 rfl) ?_
                refine rGet (k := 5) C hW (by decide) tm_Model rfl inX11 (by decide) fl_X11_22 rfl dX11_wagons_201 ?_
                refine lv_iload_n hx hb dX11_wagons_204 rfl (lv_at hl 8 rfl) ?_
                refine lv_iload hx hb dX11_wagons_205 (lv_at hl 0 rfl) ?_
                refine lv_if_eq (tgt := 215) hx hb dX11_wagons_207 (by decide) (fun c2057 => ?_) (fun c2057 => ?_)
                · rw [if_pos c2057] at h
                  cases h
                · rw [if_neg c2057] at h
                  refine lv_iload hx hb dX11_wagons_210 (lv_at hl 2 rfl) ?_
                  refine lv_goto (tgt := 221) hx hb dX11_wagons_212 (by decide) ?_
                  have s2058 : vin (z) 4096 := Classical.byContradiction fun q9 => by rw [if_neg q9] at h; cases h
                  rw [if_pos s2058] at h
                  refine rIst (M' := up2 M2006 25 (z : Int32).toNatClampNeg (x2052)) C hW hS (by decide) tm_wagonsOf s2058 (UPD_G (by decide) rfl (by rw [tm_wagonsOf, up2_gr])) dX11_wagons_221 (fun H locs hW hS => ?_)
                  have hW : Wd g (up2 M2006 25 (z : Int32).toNatClampNeg (x2052)) H := hW
                  have h := letE h
                  generalize up2 M2006 25 (z : Int32).toNatClampNeg (x2052) = M2059 at hW h
                  refine lv_aload_n hx hb dX11_wagons_222 rfl (lv_at hl 5 rfl) ?_
                  refine rGet (k := 6) C hW (by decide) tm_Model rfl inX11 (by decide) fl_X11_25 rfl dX11_wagons_223 ?_
                  refine lv_iload_n hx hb dX11_wagons_226 rfl (lv_at hl 8 rfl) ?_
                  refine lv_iload hx hb dX11_wagons_227 (lv_at hl 0 rfl) ?_
                  refine lv_if_eq (tgt := 237) hx hb dX11_wagons_229 (by decide) (fun c2060 => ?_) (fun c2060 => ?_)
                  · rw [if_pos c2060] at h
                    cases h
                  · rw [if_neg c2060] at h
                    refine lv_iload hx hb dX11_wagons_232 (lv_at hl 1 rfl) ?_
                    refine lv_goto (tgt := 243) hx hb dX11_wagons_234 (by decide) ?_
                    have s2061 : vin (z) 4096 := Classical.byContradiction fun q9 => by rw [if_neg q9] at h; cases h
                    rw [if_pos s2061] at h
                    refine rIst (M' := up2 M2059 26 (z : Int32).toNatClampNeg (M2006 24 (y : Int32).toNatClampNeg)) C hW hS (by decide) tm_lastOf s2061 (UPD_G (by decide) rfl (by rw [tm_lastOf, up2_gr])) dX11_wagons_243 (fun H locs hW hS => ?_)
                    have hW : Wd g (up2 M2059 26 (z : Int32).toNatClampNeg (M2006 24 (y : Int32).toNatClampNeg)) H := hW
                    have h := letE h
                    generalize up2 M2059 26 (z : Int32).toNatClampNeg (M2006 24 (y : Int32).toNatClampNeg) = M2062 at hW h
                    refine lv_iinc (v := y + 1) (lv' := [(4, .int (y + 1)), (9, .int (1)), (8, .int (M2006 24 (y : Int32).toNatClampNeg)), (7, .int (x2052)), (6, .int (1)), (5, .int ((z) &&& (((1) <<< ((y) &&& 31)) ^^^ (-1)))), (0, rf g (1697)), (1, .int (x)), (2, .int (u)), (3, .int (z))]) hx hb dX11_wagons_244 hl (k := 9) rfl rfl (by decide) rfl (fun ls hl => ?_)
                    refine lv_goto (tgt := 51) hx hb dX11_wagons_247 (by decide) ?_
                    exact ih M2062 x u z (y + 1) h _ _ hW hS ls (lv_sub hl [6, 7, 8, 9, 0] rfl) kx
              · rw [if_neg c2056] at h
                refine lv_iload hx hb dX11_wagons_171 (lv_at hl 1 rfl) ?_
                refine lv_aload_n hx hb dX11_wagons_173 rfl (lv_at hl 4 rfl) ?_
                refine rGet (k := 5) C hW (by decide) tm_Model rfl inX11 (by decide) fl_X11_22 rfl dX11_wagons_174 ?_
                refine lv_iload_n hx hb dX11_wagons_177 rfl (lv_at hl 7 rfl) ?_
                have s2063 : vin (z) 4096 := Classical.byContradiction fun q9 => by rw [if_neg q9] at h; cases h
                rw [if_pos s2063] at h
                refine rIld C hW (by decide) tm_wagonsOf s2063 dX11_wagons_178 ?_
                refine lv_icmp_ne (tgt := 197) hx hb dX11_wagons_179 (by decide) (fun c2064 => ?_) (fun c2064 => ?_)
                · rw [if_neg c2064] at h
                  refine lv_iconst (v := 0) hx hb dX11_wagons_197 (by decide) ?_
                  refine lv_istore (lv' := [(9, .int (0)), (8, .int (M2006 24 (y : Int32).toNatClampNeg)), (7, .int (x2052)), (6, .int (1)), (5, .int ((z) &&& (((1) <<< ((y) &&& 31)) ^^^ (-1)))), (0, rf g (1697)), (1, .int (x)), (2, .int (u)), (3, .int (z)), (4, .int (y))]) hx hb dX11_wagons_198 hl (by decide) rfl (fun ls hl => ?_)
                  refine lv_aload_n hx hb dX11_wagons_200 rfl (lv_at hl 5 rfl) ?_
                  refine rGet (k := 5) C hW (by decide) tm_Model rfl inX11 (by decide) fl_X11_22 rfl dX11_wagons_201 ?_
                  refine lv_iload_n hx hb dX11_wagons_204 rfl (lv_at hl 8 rfl) ?_
                  refine lv_iload hx hb dX11_wagons_205 (lv_at hl 0 rfl) ?_
                  refine lv_if_eq (tgt := 215) hx hb dX11_wagons_207 (by decide) (fun c2065 => ?_) (fun c2065 => ?_)
                  · rw [if_pos c2065] at h
                    refine lv_aload_n hx hb dX11_wagons_215 rfl (lv_at hl 5 rfl) ?_
                    refine rGet (k := 5) C hW (by decide) tm_Model rfl inX11 (by decide) fl_X11_22 rfl dX11_wagons_216 ?_
                    refine lv_iload_n hx hb dX11_wagons_219 rfl (lv_at hl 8 rfl) ?_
                    have s2066 : vin (z) 4096 := Classical.byContradiction fun q9 => by rw [if_neg q9] at h; cases h
                    rw [if_pos s2066] at h
                    refine rIld C hW (by decide) tm_wagonsOf s2066 dX11_wagons_220 ?_
                    have s2067 : vin (z) 4096 := Classical.byContradiction fun q9 => by rw [if_neg q9] at h; cases h
                    rw [if_pos s2067] at h
                    refine rIst (M' := up2 M2006 25 (z : Int32).toNatClampNeg (M2006 25 (z : Int32).toNatClampNeg)) C hW hS (by decide) tm_wagonsOf s2067 (UPD_G (by decide) rfl (by rw [tm_wagonsOf, up2_gr])) dX11_wagons_221 (fun H locs hW hS => ?_)
                    have hW : Wd g (up2 M2006 25 (z : Int32).toNatClampNeg (M2006 25 (z : Int32).toNatClampNeg)) H := hW
                    have h := letE h
                    generalize up2 M2006 25 (z : Int32).toNatClampNeg (M2006 25 (z : Int32).toNatClampNeg) = M2068 at hW h
                    refine lv_aload_n hx hb dX11_wagons_222 rfl (lv_at hl 5 rfl) ?_
                    refine rGet (k := 6) C hW (by decide) tm_Model rfl inX11 (by decide) fl_X11_25 rfl dX11_wagons_223 ?_
                    refine lv_iload_n hx hb dX11_wagons_226 rfl (lv_at hl 8 rfl) ?_
                    refine lv_iload hx hb dX11_wagons_227 (lv_at hl 0 rfl) ?_
                    refine lv_if_eq (tgt := 237) hx hb dX11_wagons_229 (by decide) (fun c2069 => ?_) (fun c2069 => ?_)
                    · rw [if_pos c2069] at h
                      refine lv_aload_n hx hb dX11_wagons_237 rfl (lv_at hl 5 rfl) ?_
                      refine rGet (k := 6) C hW (by decide) tm_Model rfl inX11 (by decide) fl_X11_25 rfl dX11_wagons_238 ?_
                      refine lv_iload_n hx hb dX11_wagons_241 rfl (lv_at hl 8 rfl) ?_
                      have s2070 : vin (z) 4096 := Classical.byContradiction fun q9 => by rw [if_neg q9] at h; cases h
                      rw [if_pos s2070] at h
                      refine rIld C hW (by decide) tm_lastOf s2070 dX11_wagons_242 ?_
                      have s2071 : vin (z) 4096 := Classical.byContradiction fun q9 => by rw [if_neg q9] at h; cases h
                      rw [if_pos s2071] at h
                      refine rIst (M' := up2 M2068 26 (z : Int32).toNatClampNeg (M2068 26 (z : Int32).toNatClampNeg)) C hW hS (by decide) tm_lastOf s2071 (UPD_G (by decide) rfl (by rw [tm_lastOf, up2_gr])) dX11_wagons_243 (fun H locs hW hS => ?_)
                      have hW : Wd g (up2 M2068 26 (z : Int32).toNatClampNeg (M2068 26 (z : Int32).toNatClampNeg)) H := hW
                      have h := letE h
                      generalize up2 M2068 26 (z : Int32).toNatClampNeg (M2068 26 (z : Int32).toNatClampNeg) = M2072 at hW h
                      refine lv_iinc (v := y + 1) (lv' := [(4, .int (y + 1)), (9, .int (0)), (8, .int (M2006 24 (y : Int32).toNatClampNeg)), (7, .int (x2052)), (6, .int (1)), (5, .int ((z) &&& (((1) <<< ((y) &&& 31)) ^^^ (-1)))), (0, rf g (1697)), (1, .int (x)), (2, .int (u)), (3, .int (z))]) hx hb dX11_wagons_244 hl (k := 9) rfl rfl (by decide) rfl (fun ls hl => ?_)
                      refine lv_goto (tgt := 51) hx hb dX11_wagons_247 (by decide) ?_
                      exact ih M2072 x u z (y + 1) h _ _ hW hS ls (lv_sub hl [6, 7, 8, 9, 0] rfl) kx
                    · rw [if_neg c2069] at h
                      cases h
                  · rw [if_neg c2065] at h
                    cases h
                · rw [if_pos c2064] at h
                  refine lv_iload hx hb dX11_wagons_182 (lv_at hl 0 rfl) ?_
                  refine lv_aload_n hx hb dX11_wagons_184 rfl (lv_at hl 4 rfl) ?_
                  refine rGet (k := 6) C hW (by decide) tm_Model rfl inX11 (by decide) fl_X11_25 rfl dX11_wagons_185 ?_
                  refine lv_iload_n hx hb dX11_wagons_188 rfl (lv_at hl 7 rfl) ?_
                  have s2073 : vin (z) 4096 := Classical.byContradiction fun q9 => by rw [if_neg q9] at h; cases h
                  rw [if_pos s2073] at h
                  refine rIld C hW (by decide) tm_lastOf s2073 dX11_wagons_189 ?_
                  refine lv_icmp_ge (tgt := 197) hx hb dX11_wagons_190 (by decide) (fun c2074 => ?_) (fun c2074 => ?_)
                  · rw [if_pos c2074] at h
                    refine lv_iconst (v := 0) hx hb dX11_wagons_197 (by decide) ?_
                    refine lv_istore (lv' := [(9, .int (0)), (8, .int (M2006 24 (y : Int32).toNatClampNeg)), (7, .int (x2052)), (6, .int (1)), (5, .int ((z) &&& (((1) <<< ((y) &&& 31)) ^^^ (-1)))), (0, rf g (1697)), (1, .int (x)), (2, .int (u)), (3, .int (z)), (4, .int (y))]) hx hb dX11_wagons_198 hl (by decide) rfl (fun ls hl => ?_)
                    refine lv_aload_n hx hb dX11_wagons_200 rfl (lv_at hl 5 rfl) ?_
                    refine rGet (k := 5) C hW (by decide) tm_Model rfl inX11 (by decide) fl_X11_22 rfl dX11_wagons_201 ?_
                    refine lv_iload_n hx hb dX11_wagons_204 rfl (lv_at hl 8 rfl) ?_
                    refine lv_iload hx hb dX11_wagons_205 (lv_at hl 0 rfl) ?_
                    refine lv_if_eq (tgt := 215) hx hb dX11_wagons_207 (by decide) (fun c2075 => ?_) (fun c2075 => ?_)
                    · rw [if_pos c2075] at h
                      refine lv_aload_n hx hb dX11_wagons_215 rfl (lv_at hl 5 rfl) ?_
                      refine rGet (k := 5) C hW (by decide) tm_Model rfl inX11 (by decide) fl_X11_22 rfl dX11_wagons_216 ?_
                      refine lv_iload_n hx hb dX11_wagons_219 rfl (lv_at hl 8 rfl) ?_
                      have s2076 : vin (z) 4096 := Classical.byContradiction fun q9 => by rw [if_neg q9] at h; cases h
                      rw [if_pos s2076] at h
                      refine rIld C hW (by decide) tm_wagonsOf s2076 dX11_wagons_220 ?_
                      have s2077 : vin (z) 4096 := Classical.byContradiction fun q9 => by rw [if_neg q9] at h; cases h
                      rw [if_pos s2077] at h
                      refine rIst (M' := up2 M2006 25 (z : Int32).toNatClampNeg (M2006 25 (z : Int32).toNatClampNeg)) C hW hS (by decide) tm_wagonsOf s2077 (UPD_G (by decide) rfl (by rw [tm_wagonsOf, up2_gr])) dX11_wagons_221 (fun H locs hW hS => ?_)
                      have hW : Wd g (up2 M2006 25 (z : Int32).toNatClampNeg (M2006 25 (z : Int32).toNatClampNeg)) H := hW
                      have h := letE h
                      generalize up2 M2006 25 (z : Int32).toNatClampNeg (M2006 25 (z : Int32).toNatClampNeg) = M2078 at hW h
                      refine lv_aload_n hx hb dX11_wagons_222 rfl (lv_at hl 5 rfl) ?_
                      refine rGet (k := 6) C hW (by decide) tm_Model rfl inX11 (by decide) fl_X11_25 rfl dX11_wagons_223 ?_
                      refine lv_iload_n hx hb dX11_wagons_226 rfl (lv_at hl 8 rfl) ?_
                      refine lv_iload hx hb dX11_wagons_227 (lv_at hl 0 rfl) ?_
                      refine lv_if_eq (tgt := 237) hx hb dX11_wagons_229 (by decide) (fun c2079 => ?_) (fun c2079 => ?_)
                      · rw [if_pos c2079] at h
                        refine lv_aload_n hx hb dX11_wagons_237 rfl (lv_at hl 5 rfl) ?_
                        refine rGet (k := 6) C hW (by decide) tm_Model rfl inX11 (by decide) fl_X11_25 rfl dX11_wagons_238 ?_
                        refine lv_iload_n hx hb dX11_wagons_241 rfl (lv_at hl 8 rfl) ?_
                        have s2080 : vin (z) 4096 := Classical.byContradiction fun q9 => by rw [if_neg q9] at h; cases h
                        rw [if_pos s2080] at h
                        refine rIld C hW (by decide) tm_lastOf s2080 dX11_wagons_242 ?_
                        have s2081 : vin (z) 4096 := Classical.byContradiction fun q9 => by rw [if_neg q9] at h; cases h
                        rw [if_pos s2081] at h
                        refine rIst (M' := up2 M2078 26 (z : Int32).toNatClampNeg (M2078 26 (z : Int32).toNatClampNeg)) C hW hS (by decide) tm_lastOf s2081 (UPD_G (by decide) rfl (by rw [tm_lastOf, up2_gr])) dX11_wagons_243 (fun H locs hW hS => ?_)
                        have hW : Wd g (up2 M2078 26 (z : Int32).toNatClampNeg (M2078 26 (z : Int32).toNatClampNeg)) H := hW
                        have h := letE h
                        generalize up2 M2078 26 (z : Int32).toNatClampNeg (M2078 26 (z : Int32).toNatClampNeg) = M2082 at hW h
                        refine lv_iinc (v := y + 1) (lv' := [(4, .int (y + 1)), (9, .int (0)), (8, .int (M2006 24 (y : Int32).toNatClampNeg)), (7, .int (x2052)), (6, .int (1)), (5, .int ((z) &&& (((1) <<< ((y) &&& 31)) ^^^ (-1)))), (0, rf g (1697)), (1, .int (x)), (2, .int (u)), (3, .int (z))]) hx hb dX11_wagons_244 hl (k := 9) rfl rfl (by decide) rfl (fun ls hl => ?_)
                        refine lv_goto (tgt := 51) hx hb dX11_wagons_247 (by decide) ?_
                        exact ih M2082 x u z (y + 1) h _ _ hW hS ls (lv_sub hl [6, 7, 8, 9, 0] rfl) kx
                      · rw [if_neg c2079] at h
                        cases h
                    · rw [if_neg c2075] at h
                      cases h
                  · rw [if_neg c2074] at h
                    refine lv_iconst (v := 1) hx hb dX11_wagons_193 (by decide) ?_
                    refine lv_goto (tgt := 198) hx hb dX11_wagons_194 (by decide) ?_
                    refine lv_istore (lv' := [(9, .int (1)), (8, .int (M2006 24 (y : Int32).toNatClampNeg)), (7, .int (x2052)), (6, .int (1)), (5, .int ((z) &&& (((1) <<< ((y) &&& 31)) ^^^ (-1)))), (0, rf g (1697)), (1, .int (x)), (2, .int (u)), (3, .int (z)), (4, .int (y))]) hx hb dX11_wagons_198 hl (by decide) rfl (fun ls hl => ?_)
                    refine lv_aload_n hx hb dX11_wagons_200 rfl (lv_at hl 5 rfl) ?_
                    refine rGet (k := 5) C hW (by decide) tm_Model rfl inX11 (by decide) fl_X11_22 rfl dX11_wagons_201 ?_
                    refine lv_iload_n hx hb dX11_wagons_204 rfl (lv_at hl 8 rfl) ?_
                    refine lv_iload hx hb dX11_wagons_205 (lv_at hl 0 rfl) ?_
                    refine lv_if_eq (tgt := 215) hx hb dX11_wagons_207 (by decide) (fun c2083 => ?_) (fun c2083 => ?_)
                    · rw [if_pos c2083] at h
                      cases h
                    · rw [if_neg c2083] at h
                      refine lv_iload hx hb dX11_wagons_210 (lv_at hl 2 rfl) ?_
                      refine lv_goto (tgt := 221) hx hb dX11_wagons_212 (by decide) ?_
                      have s2084 : vin (z) 4096 := Classical.byContradiction fun q9 => by rw [if_neg q9] at h; cases h
                      rw [if_pos s2084] at h
                      refine rIst (M' := up2 M2006 25 (z : Int32).toNatClampNeg (x2052)) C hW hS (by decide) tm_wagonsOf s2084 (UPD_G (by decide) rfl (by rw [tm_wagonsOf, up2_gr])) dX11_wagons_221 (fun H locs hW hS => ?_)
                      have hW : Wd g (up2 M2006 25 (z : Int32).toNatClampNeg (x2052)) H := hW
                      have h := letE h
                      generalize up2 M2006 25 (z : Int32).toNatClampNeg (x2052) = M2085 at hW h
                      refine lv_aload_n hx hb dX11_wagons_222 rfl (lv_at hl 5 rfl) ?_
                      refine rGet (k := 6) C hW (by decide) tm_Model rfl inX11 (by decide) fl_X11_25 rfl dX11_wagons_223 ?_
                      refine lv_iload_n hx hb dX11_wagons_226 rfl (lv_at hl 8 rfl) ?_
                      refine lv_iload hx hb dX11_wagons_227 (lv_at hl 0 rfl) ?_
                      refine lv_if_eq (tgt := 237) hx hb dX11_wagons_229 (by decide) (fun c2086 => ?_) (fun c2086 => ?_)
                      · rw [if_pos c2086] at h
                        cases h
                      · rw [if_neg c2086] at h
                        refine lv_iload hx hb dX11_wagons_232 (lv_at hl 1 rfl) ?_
                        refine lv_goto (tgt := 243) hx hb dX11_wagons_234 (by decide) ?_
                        have s2087 : vin (z) 4096 := Classical.byContradiction fun q9 => by rw [if_neg q9] at h; cases h
                        rw [if_pos s2087] at h
                        refine rIst (M' := up2 M2085 26 (z : Int32).toNatClampNeg (M2006 24 (y : Int32).toNatClampNeg)) C hW hS (by decide) tm_lastOf s2087 (UPD_G (by decide) rfl (by rw [tm_lastOf, up2_gr])) dX11_wagons_243 (fun H locs hW hS => ?_)
                        have hW : Wd g (up2 M2085 26 (z : Int32).toNatClampNeg (M2006 24 (y : Int32).toNatClampNeg)) H := hW
                        have h := letE h
                        generalize up2 M2085 26 (z : Int32).toNatClampNeg (M2006 24 (y : Int32).toNatClampNeg) = M2088 at hW h
                        refine lv_iinc (v := y + 1) (lv' := [(4, .int (y + 1)), (9, .int (1)), (8, .int (M2006 24 (y : Int32).toNatClampNeg)), (7, .int (x2052)), (6, .int (1)), (5, .int ((z) &&& (((1) <<< ((y) &&& 31)) ^^^ (-1)))), (0, rf g (1697)), (1, .int (x)), (2, .int (u)), (3, .int (z))]) hx hb dX11_wagons_244 hl (k := 9) rfl rfl (by decide) rfl (fun ls hl => ?_)
                        refine lv_goto (tgt := 51) hx hb dX11_wagons_247 (by decide) ?_
                        exact ih M2088 x u z (y + 1) h _ _ hW hS ls (lv_sub hl [6, 7, 8, 9, 0] rfl) kx
set_option maxHeartbeats 4000000 in
set_option maxRecDepth 100000 in
theorem t_X11_wagons_33 (l : Launch) (g : GD) {p : Program} {e : Env} {s : State} {m : MethodId} {av : Array Value} {below : List Frame} {meth : Method} {c : Code}  (n : Nat) : ∀ (M : MM) (x : Int32) (u : Int32) (z : Int32) (r : Int32) (M2 : MM), lp_X11_wagons_33 n M   x u z = some (r, M2) → CX p s m av c cX11_wagons 10 RX11 g → meth.sig.returnType = (some .int) → meth.locks = false → ∀ (H : Heap) (locs : List Loc), Wd g M H → sS g s H locs → ∀ ls : Array Slot, lv_has ls 10 [(0, rf g (1697)), (1, .int (x)), (2, .int (u)), (3, .int (z))] → W p l e (RM 3 68) s m av below meth c H locs 0 0 (MQ below (QQ g (fun v w0 => v = .int r ∧ M2 = w0)) av s 0 0 (AA g)) (F0 m 33 ls []) := by
  induction n with
  | zero => intro M x u z r M2 h; cases h
  | succ n ih0 =>
    intro M x u z r M2 h C hr hlk H locs hW hS ls hl
    have ih : ∀ (M : MM) (x : Int32) (u : Int32) (z : Int32), lp_X11_wagons_33 n M   x u z = some (r, M2) → ∀ (H : Heap) (locs : List Loc), Wd g M H → sS g s H locs → ∀ ls : Array Slot, lv_has ls 10 [(0, rf g (1697)), (1, .int (x)), (2, .int (u)), (3, .int (z))] → W p l e (RM 3 68) s m av below meth c H locs 0 0 (MQ below (QQ g (fun v w0 => v = .int r ∧ M2 = w0)) av s 0 0 (AA g)) (F0 m 33 ls []) := fun M x u z h H locs hW hS ls hl => ih0 M x u z r M2 h C hr hlk H locs hW hS ls hl
    unfold lp_X11_wagons_33 at h
    try dsimp only at h
    have hx := C.1
    have hb := C.2.1
    have hts := C.2.2.2.2.1
    refine lv_iload_n hx hb dX11_wagons_33 rfl (lv_at hl 3 rfl) ?_
    refine lv_iconst (v := 1) hx hb dX11_wagons_34 (by decide) ?_
    refine lv_iload_n hx hb dX11_wagons_35 rfl (lv_at hl 2 rfl) ?_
    refine lv_ishl hx hb dX11_wagons_36 ?_
    refine lv_icmp_ge (tgt := 256) hx hb dX11_wagons_37 (by decide) (fun c1001 => ?_) (fun c1001 => ?_)
    · rw [if_pos c1001] at h
      refine lv_aload_n hx hb dX11_wagons_256 rfl (lv_at hl 0 rfl) ?_
      refine rGet (k := 5) C hW (by decide) tm_Model rfl inX11 (by decide) fl_X11_22 rfl dX11_wagons_257 ?_
      refine lv_iconst (v := 1) hx hb dX11_wagons_260 (by decide) ?_
      refine lv_iload_n hx hb dX11_wagons_261 rfl (lv_at hl 2 rfl) ?_
      refine lv_ishl hx hb dX11_wagons_262 ?_
      refine lv_iconst (v := 1) hx hb dX11_wagons_263 (by decide) ?_
      refine lv_isub hx hb dX11_wagons_264 ?_
      have s1002 : vin (((1) <<< ((u) &&& 31)) - (1)) 4096 := Classical.byContradiction fun q9 => by rw [if_neg q9] at h; cases h
      rw [if_pos s1002] at h
      refine rIld C hW (by decide) tm_wagonsOf s1002 dX11_wagons_265 ?_
      cases h
      exact rI C hr hlk dX11_wagons_266 hW hS ⟨rfl, rfl⟩
    · rw [if_neg c1001] at h
      refine lv_aload_n hx hb dX11_wagons_40 rfl (lv_at hl 0 rfl) ?_
      refine rGet (k := 5) C hW (by decide) tm_Model rfl inX11 (by decide) fl_X11_22 rfl dX11_wagons_41 ?_
      refine lv_iload_n hx hb dX11_wagons_44 rfl (lv_at hl 3 rfl) ?_
      refine lv_bipush (v := 13) hx hb dX11_wagons_45 (by decide) ?_
      have s1003 : vin (z) 4096 := Classical.byContradiction fun q9 => by rw [if_neg q9] at h; cases h
      rw [if_pos s1003] at h
      refine rIst (M' := up2 M 25 (z : Int32).toNatClampNeg (13)) C hW hS (by decide) tm_wagonsOf s1003 (UPD_G (by decide) rfl (by rw [tm_wagonsOf, up2_gr])) dX11_wagons_47 (fun H locs hW hS => ?_)
      have hW : Wd g (up2 M 25 (z : Int32).toNatClampNeg (13)) H := hW
      have h := letE h
      generalize up2 M 25 (z : Int32).toNatClampNeg (13) = M1004 at hW h
      refine lv_iconst (v := 0) hx hb dX11_wagons_48 (by decide) ?_
      refine lv_istore (lv' := [(4, .int (0)), (0, rf g (1697)), (1, .int (x)), (2, .int (u)), (3, .int (z))]) hx hb dX11_wagons_49 hl (by decide) rfl (fun ls hl => ?_)
      obtain ⟨y1005, y1006, y1007, M1008, h1009, h⟩ := bind4 h
      refine t_X11_wagons_51 l g  FU M1004 x u z 0 y1005 y1006 y1007 M1008 h1009 C _ _ hW hS ls (lv_sub hl [1, 2, 3, 4, 0] rfl) (fun H locs hW hS ls hl => ?_)
      refine lv_iinc (v := y1007 + 1) (lv' := [(3, .int (y1007 + 1)), (0, rf g (1697)), (1, .int (y1005)), (2, .int (y1006))]) hx hb dX11_wagons_250 hl (k := 3) rfl rfl (by decide) rfl (fun ls hl => ?_)
      refine lv_goto (tgt := 33) hx hb dX11_wagons_253 (by decide) ?_
      exact ih M1008 y1005 y1006 (y1007 + 1) h _ _ hW hS ls (lv_sub hl [1, 2, 3, 0] rfl)
set_option maxHeartbeats 4000000 in
set_option maxRecDepth 100000 in
theorem c_X11_wagons (l : Launch) (g : GD) (M : MM) (x : Int32) (r : Int32) (M2 : MM) (h : f_X11_wagons M x = some (r, M2)) : Met l yX11_wagons (wm yX11_wagons cX11_wagons 10 (some .int)) (RM 3 68) (va_Pc [rf g (1697), .int (x)] (WDp g M)) (QQ g (fun v w0 => v = .int r ∧ M2 = w0)) 0 0 (AA g) := by
  refine mkM (by decide +kernel) (Nat.le_of_ble_eq_true rfl) ?_
  intro p e s m below meth c C hr hlk hW hS ls hl
  have hl : lv_has ls 10 [(0, rf g (1697)), (1, .int (x))] := hl
  have hx := C.1
  have hb := C.2.1
  have hts := C.2.2.2.2.1
  unfold f_X11_wagons at h
  refine lv_aload_n hx hb dX11_wagons_0 rfl (lv_at hl 0 rfl) ?_
  refine lv_iload_n hx hb dX11_wagons_1 rfl (lv_at hl 1 rfl) ?_
  obtain ⟨r1, M2, h3, h⟩ := bind2 h
  refine cBack C.2.2.2.2.2.2.2.2 (runV (As := [.int (x)]) (rest := []) C hW hS (c_X11_takesBells l g M x _ _ h3) kV_X11_takesBells ml_X11_169 (by decide) tm_Model rfl rfl rfl hl.1 rfl (Nat.le_of_ble_eq_true rfl) ⟨Nat.le_of_ble_eq_true rfl, Nat.le_of_ble_eq_true rfl⟩ ⟨Nat.zero_le _, Nat.zero_le _⟩ dX11_wagons_2) hS (fun v0 w0 H locs hp hW hS => ?_)
  obtain ⟨rfl, rfl⟩ := hp
  refine lv_istore_n (lv' := [(2, .int (r1)), (0, rf g (1697)), (1, .int (x))]) hx hb dX11_wagons_5 rfl hl (by decide) rfl (fun ls hl => ?_)
  refine lv_iload_n hx hb dX11_wagons_6 rfl (lv_at hl 0 rfl) ?_
  refine lv_if_gt (tgt := 12) hx hb dX11_wagons_7 (by decide) (fun c4 => ?_) (fun c4 => ?_)
  · rw [if_pos c4] at h
    refine lv_aload_n hx hb dX11_wagons_12 rfl (lv_at hl 1 rfl) ?_
    refine rGet (k := 5) C hW (by decide) tm_Model rfl inX11 (by decide) fl_X11_22 rfl dX11_wagons_13 ?_
    refine lv_iconst (v := 0) hx hb dX11_wagons_16 (by decide) ?_
    refine lv_iconst (v := 0) hx hb dX11_wagons_17 (by decide) ?_
    have s5 : vin (0) 4096 := Classical.byContradiction fun q9 => by rw [if_neg q9] at h; cases h
    rw [if_pos s5] at h
    refine rIst (M' := up2 M2 25 (0 : Int32).toNatClampNeg (0)) C hW hS (by decide) tm_wagonsOf s5 (UPD_G (by decide) rfl (by rw [tm_wagonsOf, up2_gr])) dX11_wagons_18 (fun H locs hW hS => ?_)
    have hW : Wd g (up2 M2 25 (0 : Int32).toNatClampNeg (0)) H := hW
    have h := letE h
    generalize up2 M2 25 (0 : Int32).toNatClampNeg (0) = M6 at hW h
    refine lv_aload_n hx hb dX11_wagons_19 rfl (lv_at hl 1 rfl) ?_
    refine rGet (k := 6) C hW (by decide) tm_Model rfl inX11 (by decide) fl_X11_25 rfl dX11_wagons_20 ?_
    refine lv_iconst (v := 0) hx hb dX11_wagons_23 (by decide) ?_
    refine lv_aload_n hx hb dX11_wagons_24 rfl (lv_at hl 1 rfl) ?_
    refine lv_bipush (v := 6) hx hb dX11_wagons_25 (by decide) ?_
    obtain ⟨r7, M8, h9, h⟩ := bind2 h
    refine cBack C.2.2.2.2.2.2.2.2 (runV (As := [.int (6)]) (rest := [.int (0), rf g (1703)]) C hW hS (c_X11_setting l g M6 6 _ _ h9) kV_X11_setting ml_X11_61 (by decide) tm_Model rfl rfl rfl hl.1 rfl (Nat.le_of_ble_eq_true rfl) ⟨Nat.le_of_ble_eq_true rfl, Nat.le_of_ble_eq_true rfl⟩ ⟨Nat.zero_le _, Nat.zero_le _⟩ dX11_wagons_27) hS (fun v0 w0 H locs hp hW hS => ?_)
    obtain ⟨rfl, rfl⟩ := hp
    have s10 : vin (0) 4096 := Classical.byContradiction fun q9 => by rw [if_neg q9] at h; cases h
    rw [if_pos s10] at h
    refine rIst (M' := up2 M8 26 (0 : Int32).toNatClampNeg (r7)) C hW hS (by decide) tm_lastOf s10 (UPD_G (by decide) rfl (by rw [tm_lastOf, up2_gr])) dX11_wagons_30 (fun H locs hW hS => ?_)
    have hW : Wd g (up2 M8 26 (0 : Int32).toNatClampNeg (r7)) H := hW
    have h := letE h
    generalize up2 M8 26 (0 : Int32).toNatClampNeg (r7) = M11 at hW h
    refine lv_iconst (v := 1) hx hb dX11_wagons_31 (by decide) ?_
    refine lv_istore_n (lv' := [(3, .int (1)), (2, .int (r1)), (0, rf g (1697)), (1, .int (x))]) hx hb dX11_wagons_32 rfl hl (by decide) rfl (fun ls hl => ?_)
    exact t_X11_wagons_33 l g    FU M11 x r1 1 _ _ h C hr hlk _ _ hW hS ls (lv_sub hl [2, 3, 1, 0] rfl)
  · rw [if_neg c4] at h
    refine lv_iload_n hx hb dX11_wagons_10 rfl (lv_at hl 0 rfl) ?_
    cases h
    exact rI C hr hlk dX11_wagons_11 hW hS ⟨rfl, rfl⟩
def lp_X11_inScrap_4 (fu : Nat) (M : MM)  (x : Int32) (u : Int32) (z : Int32) : Option (Int32 × MM) := match fu with
  | 0 => none
  | n + 1 => (if vin (8) 1254 then (if (M 21 (8 : Int32).toNatClampNeg : Int32) ≤ (z : Int32) then some (u, M) else (if vin (((9) + ((3) * (z))) + (x)) 1254 then (lp_X11_inScrap_4 n M   x ((u) + (M 21 (((9) + ((3) * (z))) + (x) : Int32).toNatClampNeg)) (z + 1)) else none)) else none)
def f_X11_inScrap (M : MM) (x : Int32) : Option (Int32 × MM) := (lp_X11_inScrap_4 FU M   x 0 0)
set_option maxHeartbeats 4000000 in
set_option maxRecDepth 100000 in
theorem t_X11_inScrap_4 (l : Launch) (g : GD) {p : Program} {e : Env} {s : State} {m : MethodId} {av : Array Value} {below : List Frame} {meth : Method} {c : Code}  (n : Nat) : ∀ (M : MM) (x : Int32) (u : Int32) (z : Int32) (r : Int32) (M2 : MM), lp_X11_inScrap_4 n M   x u z = some (r, M2) → CX p s m av c cX11_inScrap 4 RX11 g → meth.sig.returnType = (some .int) → meth.locks = false → ∀ (H : Heap) (locs : List Loc), Wd g M H → sS g s H locs → ∀ ls : Array Slot, lv_has ls 4 [(0, rf g (1697)), (1, .int (x)), (2, .int (u)), (3, .int (z))] → W p l e (RM 0 0) s m av below meth c H locs 0 0 (MQ below (QQ g (fun v w0 => v = .int r ∧ M2 = w0)) av s 0 0 (AA g)) (F0 m 4 ls []) := by
  induction n with
  | zero => intro M x u z r M2 h; cases h
  | succ n ih0 =>
    intro M x u z r M2 h C hr hlk H locs hW hS ls hl
    have ih : ∀ (M : MM) (x : Int32) (u : Int32) (z : Int32), lp_X11_inScrap_4 n M   x u z = some (r, M2) → ∀ (H : Heap) (locs : List Loc), Wd g M H → sS g s H locs → ∀ ls : Array Slot, lv_has ls 4 [(0, rf g (1697)), (1, .int (x)), (2, .int (u)), (3, .int (z))] → W p l e (RM 0 0) s m av below meth c H locs 0 0 (MQ below (QQ g (fun v w0 => v = .int r ∧ M2 = w0)) av s 0 0 (AA g)) (F0 m 4 ls []) := fun M x u z h H locs hW hS ls hl => ih0 M x u z r M2 h C hr hlk H locs hW hS ls hl
    unfold lp_X11_inScrap_4 at h
    try dsimp only at h
    have hx := C.1
    have hb := C.2.1
    have hts := C.2.2.2.2.1
    refine lv_iload_n hx hb dX11_inScrap_4 rfl (lv_at hl 3 rfl) ?_
    refine lv_aload_n hx hb dX11_inScrap_5 rfl (lv_at hl 0 rfl) ?_
    refine rGet (k := 0) C hW (by decide) tm_Model rfl inX11 (by decide) fl_X11_7 rfl dX11_inScrap_6 ?_
    refine lv_bipush (v := 8) hx hb dX11_inScrap_9 (by decide) ?_
    have s1001 : vin (8) 1254 := Classical.byContradiction fun q9 => by rw [if_neg q9] at h; cases h
    rw [if_pos s1001] at h
    refine rIld C hW (by decide) tm_s s1001 dX11_inScrap_11 ?_
    refine lv_icmp_ge (tgt := 37) hx hb dX11_inScrap_12 (by decide) (fun c1002 => ?_) (fun c1002 => ?_)
    · rw [if_pos c1002] at h
      refine lv_iload_n hx hb dX11_inScrap_37 rfl (lv_at hl 2 rfl) ?_
      cases h
      exact rI C hr hlk dX11_inScrap_38 hW hS ⟨rfl, rfl⟩
    · rw [if_neg c1002] at h
      refine lv_iload_n hx hb dX11_inScrap_15 rfl (lv_at hl 2 rfl) ?_
      refine lv_aload_n hx hb dX11_inScrap_16 rfl (lv_at hl 0 rfl) ?_
      refine rGet (k := 0) C hW (by decide) tm_Model rfl inX11 (by decide) fl_X11_7 rfl dX11_inScrap_17 ?_
      refine lv_bipush (v := 9) hx hb dX11_inScrap_20 (by decide) ?_
      refine lv_iconst (v := 3) hx hb dX11_inScrap_22 (by decide) ?_
      refine lv_iload_n hx hb dX11_inScrap_23 rfl (lv_at hl 3 rfl) ?_
      refine lv_imul hx hb dX11_inScrap_24 ?_
      refine lv_iadd hx hb dX11_inScrap_25 ?_
      refine lv_iload_n hx hb dX11_inScrap_26 rfl (lv_at hl 1 rfl) ?_
      refine lv_iadd hx hb dX11_inScrap_27 ?_
      have s1003 : vin (((9) + ((3) * (z))) + (x)) 1254 := Classical.byContradiction fun q9 => by rw [if_neg q9] at h; cases h
      rw [if_pos s1003] at h
      refine rIld C hW (by decide) tm_s s1003 dX11_inScrap_28 ?_
      refine lv_iadd hx hb dX11_inScrap_29 ?_
      refine lv_istore_n (lv' := [(2, .int ((u) + (M 21 (((9) + ((3) * (z))) + (x) : Int32).toNatClampNeg))), (0, rf g (1697)), (1, .int (x)), (3, .int (z))]) hx hb dX11_inScrap_30 rfl hl (by decide) rfl (fun ls hl => ?_)
      refine lv_iinc (v := z + 1) (lv' := [(3, .int (z + 1)), (2, .int ((u) + (M 21 (((9) + ((3) * (z))) + (x) : Int32).toNatClampNeg))), (0, rf g (1697)), (1, .int (x))]) hx hb dX11_inScrap_31 hl (k := 3) rfl rfl (by decide) rfl (fun ls hl => ?_)
      refine lv_goto (tgt := 4) hx hb dX11_inScrap_34 (by decide) ?_
      exact ih M x ((u) + (M 21 (((9) + ((3) * (z))) + (x) : Int32).toNatClampNeg)) (z + 1) h _ _ hW hS ls (lv_sub hl [2, 3, 1, 0] rfl)
set_option maxHeartbeats 4000000 in
set_option maxRecDepth 100000 in
theorem c_X11_inScrap (l : Launch) (g : GD) (M : MM) (x : Int32) (r : Int32) (M2 : MM) (h : f_X11_inScrap M x = some (r, M2)) : Met l yX11_inScrap (wm yX11_inScrap cX11_inScrap 4 (some .int)) (RM 0 0) (va_Pc [rf g (1697), .int (x)] (WDp g M)) (QQ g (fun v w0 => v = .int r ∧ M2 = w0)) 0 0 (AA g) := by
  refine mkM (by decide +kernel) (Nat.le_of_ble_eq_true rfl) ?_
  intro p e s m below meth c C hr hlk hW hS ls hl
  have hl : lv_has ls 4 [(0, rf g (1697)), (1, .int (x))] := hl
  have hx := C.1
  have hb := C.2.1
  have hts := C.2.2.2.2.1
  unfold f_X11_inScrap at h
  refine lv_iconst (v := 0) hx hb dX11_inScrap_0 (by decide) ?_
  refine lv_istore_n (lv' := [(2, .int (0)), (0, rf g (1697)), (1, .int (x))]) hx hb dX11_inScrap_1 rfl hl (by decide) rfl (fun ls hl => ?_)
  refine lv_iconst (v := 0) hx hb dX11_inScrap_2 (by decide) ?_
  refine lv_istore_n (lv' := [(3, .int (0)), (2, .int (0)), (0, rf g (1697)), (1, .int (x))]) hx hb dX11_inScrap_3 rfl hl (by decide) rfl (fun ls hl => ?_)
  exact t_X11_inScrap_4 l g    FU M x 0 0 _ _ h C hr hlk _ _ hW hS ls (lv_sub hl [2, 3, 1, 0] rfl)
def lp_X11_inBells_5 (fu : Nat) (M : MM)  (x : Int32) (y : Int32) (u : Int32) (z : Int32) : Option (Int32 × MM) := match fu with
  | 0 => none
  | n + 1 => (if vin (52) 1254 then (if (M 21 (52 : Int32).toNatClampNeg : Int32) ≤ (z : Int32) then some (u, M) else (if (y : Int32) = 0 then (bnd2 (f_X11_isHere M z) fun r1004 M1005 => (if (r1004 : Int32) = 0 then (lp_X11_inBells_5 n M1005   x y ((u) + (0)) (z + 1)) else (bnd2 (f_X11_of M1005 z x) fun r1008 M1009 => (lp_X11_inBells_5 n M1009   x y ((u) + (r1008)) (z + 1))))) else (bnd2 (f_X11_of M z 6) fun r1011 M1012 => (if (r1011 : Int32) = (2 : Int32) then (bnd2 (f_X11_of M1012 z x) fun r1015 M1016 => (lp_X11_inBells_5 n M1016   x y ((u) + (r1015)) (z + 1))) else (lp_X11_inBells_5 n M1012   x y ((u) + (0)) (z + 1)))))) else none)
def f_X11_inBells (M : MM) (x : Int32) (y : Int32) : Option (Int32 × MM) := (lp_X11_inBells_5 FU M   x y 0 0)
set_option maxHeartbeats 4000000 in
set_option maxRecDepth 100000 in
theorem t_X11_inBells_5 (l : Launch) (g : GD) {p : Program} {e : Env} {s : State} {m : MethodId} {av : Array Value} {below : List Frame} {meth : Method} {c : Code}  (n : Nat) : ∀ (M : MM) (x : Int32) (y : Int32) (u : Int32) (z : Int32) (r : Int32) (M2 : MM), lp_X11_inBells_5 n M   x y u z = some (r, M2) → CX p s m av c cX11_inBells 5 RX11 g → meth.sig.returnType = (some .int) → meth.locks = false → ∀ (H : Heap) (locs : List Loc), Wd g M H → sS g s H locs → ∀ ls : Array Slot, lv_has ls 5 [(0, rf g (1697)), (1, .int (x)), (2, .int (y)), (3, .int (u)), (4, .int (z))] → W p l e (RM 2 43) s m av below meth c H locs 0 0 (MQ below (QQ g (fun v w0 => v = .int r ∧ M2 = w0)) av s 0 0 (AA g)) (F0 m 5 ls []) := by
  induction n with
  | zero => intro M x y u z r M2 h; cases h
  | succ n ih0 =>
    intro M x y u z r M2 h C hr hlk H locs hW hS ls hl
    have ih : ∀ (M : MM) (x : Int32) (y : Int32) (u : Int32) (z : Int32), lp_X11_inBells_5 n M   x y u z = some (r, M2) → ∀ (H : Heap) (locs : List Loc), Wd g M H → sS g s H locs → ∀ ls : Array Slot, lv_has ls 5 [(0, rf g (1697)), (1, .int (x)), (2, .int (y)), (3, .int (u)), (4, .int (z))] → W p l e (RM 2 43) s m av below meth c H locs 0 0 (MQ below (QQ g (fun v w0 => v = .int r ∧ M2 = w0)) av s 0 0 (AA g)) (F0 m 5 ls []) := fun M x y u z h H locs hW hS ls hl => ih0 M x y u z r M2 h C hr hlk H locs hW hS ls hl
    unfold lp_X11_inBells_5 at h
    try dsimp only at h
    have hx := C.1
    have hb := C.2.1
    have hts := C.2.2.2.2.1
    refine lv_iload hx hb dX11_inBells_5 (lv_at hl 4 rfl) ?_
    refine lv_aload_n hx hb dX11_inBells_7 rfl (lv_at hl 0 rfl) ?_
    refine rGet (k := 0) C hW (by decide) tm_Model rfl inX11 (by decide) fl_X11_7 rfl dX11_inBells_8 ?_
    refine lv_bipush (v := 52) hx hb dX11_inBells_11 (by decide) ?_
    have s1001 : vin (52) 1254 := Classical.byContradiction fun q9 => by rw [if_neg q9] at h; cases h
    rw [if_pos s1001] at h
    refine rIld C hW (by decide) tm_s s1001 dX11_inBells_13 ?_
    refine lv_icmp_ge (tgt := 65) hx hb dX11_inBells_14 (by decide) (fun c1002 => ?_) (fun c1002 => ?_)
    · rw [if_pos c1002] at h
      refine lv_iload_n hx hb dX11_inBells_65 rfl (lv_at hl 3 rfl) ?_
      cases h
      exact rI C hr hlk dX11_inBells_66 hW hS ⟨rfl, rfl⟩
    · rw [if_neg c1002] at h
      refine lv_iload_n hx hb dX11_inBells_17 rfl (lv_at hl 3 rfl) ?_
      refine lv_iload_n hx hb dX11_inBells_18 rfl (lv_at hl 2 rfl) ?_
      refine lv_if_eq (tgt := 37) hx hb dX11_inBells_19 (by decide) (fun c1003 => ?_) (fun c1003 => ?_)
      · rw [if_pos c1003] at h
        refine lv_aload_n hx hb dX11_inBells_37 rfl (lv_at hl 0 rfl) ?_
        refine lv_iload hx hb dX11_inBells_38 (lv_at hl 4 rfl) ?_
        obtain ⟨r1004, M1005, h1006, h⟩ := bind2 h
        refine cBack C.2.2.2.2.2.2.2.2 (runV (As := [.int (z)]) (rest := [.int (u)]) C hW hS (c_X11_isHere l g M z _ _ h1006) kV_X11_isHere ml_X11_107 (by decide) tm_Model rfl rfl rfl hl.1 rfl (Nat.le_of_ble_eq_true rfl) ⟨Nat.le_of_ble_eq_true rfl, Nat.le_of_ble_eq_true rfl⟩ ⟨Nat.zero_le _, Nat.zero_le _⟩ dX11_inBells_40) hS (fun v0 w0 H locs hp hW hS => ?_)
        obtain ⟨rfl, rfl, zr1004⟩ := hp
        refine lv_if_eq (tgt := 56) hx hb dX11_inBells_43 (by decide) (fun c1007 => ?_) (fun c1007 => ?_)
        · rw [if_pos c1007] at h
          refine lv_iconst (v := 0) hx hb dX11_inBells_56 (by decide) ?_
          refine lv_iadd hx hb dX11_inBells_57 ?_
          refine lv_istore_n (lv' := [(3, .int ((u) + (0))), (0, rf g (1697)), (1, .int (x)), (2, .int (y)), (4, .int (z))]) hx hb dX11_inBells_58 rfl hl (by decide) rfl (fun ls hl => ?_)
          refine lv_iinc (v := z + 1) (lv' := [(4, .int (z + 1)), (3, .int ((u) + (0))), (0, rf g (1697)), (1, .int (x)), (2, .int (y))]) hx hb dX11_inBells_59 hl (k := 4) rfl rfl (by decide) rfl (fun ls hl => ?_)
          refine lv_goto (tgt := 5) hx hb dX11_inBells_62 (by decide) ?_
          exact ih M1005 x y ((u) + (0)) (z + 1) h _ _ hW hS ls (lv_sub hl [2, 3, 4, 1, 0] rfl)
        · rw [if_neg c1007] at h
          refine lv_aload_n hx hb dX11_inBells_46 rfl (lv_at hl 0 rfl) ?_
          refine lv_iload hx hb dX11_inBells_47 (lv_at hl 4 rfl) ?_
          refine lv_iload_n hx hb dX11_inBells_49 rfl (lv_at hl 1 rfl) ?_
          obtain ⟨r1008, M1009, h1010, h⟩ := bind2 h
          refine cBack C.2.2.2.2.2.2.2.2 (runV (As := [.int (z), .int (x)]) (rest := [.int (u)]) C hW hS (c_X11_of l g M1005 z x _ _ h1010) kV_X11_of ml_X11_104 (by decide) tm_Model rfl rfl rfl hl.1 rfl (Nat.le_of_ble_eq_true rfl) ⟨Nat.le_of_ble_eq_true rfl, Nat.le_of_ble_eq_true rfl⟩ ⟨Nat.zero_le _, Nat.zero_le _⟩ dX11_inBells_50) hS (fun v0 w0 H locs hp hW hS => ?_)
          obtain ⟨rfl, rfl⟩ := hp
          refine lv_goto (tgt := 57) hx hb dX11_inBells_53 (by decide) ?_
          refine lv_iadd hx hb dX11_inBells_57 ?_
          refine lv_istore_n (lv' := [(3, .int ((u) + (r1008))), (0, rf g (1697)), (1, .int (x)), (2, .int (y)), (4, .int (z))]) hx hb dX11_inBells_58 rfl hl (by decide) rfl (fun ls hl => ?_)
          refine lv_iinc (v := z + 1) (lv' := [(4, .int (z + 1)), (3, .int ((u) + (r1008))), (0, rf g (1697)), (1, .int (x)), (2, .int (y))]) hx hb dX11_inBells_59 hl (k := 4) rfl rfl (by decide) rfl (fun ls hl => ?_)
          refine lv_goto (tgt := 5) hx hb dX11_inBells_62 (by decide) ?_
          exact ih M1009 x y ((u) + (r1008)) (z + 1) h _ _ hW hS ls (lv_sub hl [2, 3, 4, 1, 0] rfl)
      · rw [if_neg c1003] at h
        refine lv_aload_n hx hb dX11_inBells_22 rfl (lv_at hl 0 rfl) ?_
        refine lv_iload hx hb dX11_inBells_23 (lv_at hl 4 rfl) ?_
        refine lv_bipush (v := 6) hx hb dX11_inBells_25 (by decide) ?_
        obtain ⟨r1011, M1012, h1013, h⟩ := bind2 h
        refine cBack C.2.2.2.2.2.2.2.2 (runV (As := [.int (z), .int (6)]) (rest := [.int (u)]) C hW hS (c_X11_of l g M z 6 _ _ h1013) kV_X11_of ml_X11_104 (by decide) tm_Model rfl rfl rfl hl.1 rfl (Nat.le_of_ble_eq_true rfl) ⟨Nat.le_of_ble_eq_true rfl, Nat.le_of_ble_eq_true rfl⟩ ⟨Nat.zero_le _, Nat.zero_le _⟩ dX11_inBells_27) hS (fun v0 w0 H locs hp hW hS => ?_)
        obtain ⟨rfl, rfl⟩ := hp
        refine lv_iconst (v := 2) hx hb dX11_inBells_30 (by decide) ?_
        refine lv_icmp_ne (tgt := 56) hx hb dX11_inBells_31 (by decide) (fun c1014 => ?_) (fun c1014 => ?_)
        · rw [if_neg c1014] at h
          refine lv_iconst (v := 0) hx hb dX11_inBells_56 (by decide) ?_
          refine lv_iadd hx hb dX11_inBells_57 ?_
          refine lv_istore_n (lv' := [(3, .int ((u) + (0))), (0, rf g (1697)), (1, .int (x)), (2, .int (y)), (4, .int (z))]) hx hb dX11_inBells_58 rfl hl (by decide) rfl (fun ls hl => ?_)
          refine lv_iinc (v := z + 1) (lv' := [(4, .int (z + 1)), (3, .int ((u) + (0))), (0, rf g (1697)), (1, .int (x)), (2, .int (y))]) hx hb dX11_inBells_59 hl (k := 4) rfl rfl (by decide) rfl (fun ls hl => ?_)
          refine lv_goto (tgt := 5) hx hb dX11_inBells_62 (by decide) ?_
          exact ih M1012 x y ((u) + (0)) (z + 1) h _ _ hW hS ls (lv_sub hl [2, 3, 4, 1, 0] rfl)
        · rw [if_pos c1014] at h
          refine lv_goto (tgt := 46) hx hb dX11_inBells_34 (by decide) ?_
          refine lv_aload_n hx hb dX11_inBells_46 rfl (lv_at hl 0 rfl) ?_
          refine lv_iload hx hb dX11_inBells_47 (lv_at hl 4 rfl) ?_
          refine lv_iload_n hx hb dX11_inBells_49 rfl (lv_at hl 1 rfl) ?_
          obtain ⟨r1015, M1016, h1017, h⟩ := bind2 h
          refine cBack C.2.2.2.2.2.2.2.2 (runV (As := [.int (z), .int (x)]) (rest := [.int (u)]) C hW hS (c_X11_of l g M1012 z x _ _ h1017) kV_X11_of ml_X11_104 (by decide) tm_Model rfl rfl rfl hl.1 rfl (Nat.le_of_ble_eq_true rfl) ⟨Nat.le_of_ble_eq_true rfl, Nat.le_of_ble_eq_true rfl⟩ ⟨Nat.zero_le _, Nat.zero_le _⟩ dX11_inBells_50) hS (fun v0 w0 H locs hp hW hS => ?_)
          obtain ⟨rfl, rfl⟩ := hp
          refine lv_goto (tgt := 57) hx hb dX11_inBells_53 (by decide) ?_
          refine lv_iadd hx hb dX11_inBells_57 ?_
          refine lv_istore_n (lv' := [(3, .int ((u) + (r1015))), (0, rf g (1697)), (1, .int (x)), (2, .int (y)), (4, .int (z))]) hx hb dX11_inBells_58 rfl hl (by decide) rfl (fun ls hl => ?_)
          refine lv_iinc (v := z + 1) (lv' := [(4, .int (z + 1)), (3, .int ((u) + (r1015))), (0, rf g (1697)), (1, .int (x)), (2, .int (y))]) hx hb dX11_inBells_59 hl (k := 4) rfl rfl (by decide) rfl (fun ls hl => ?_)
          refine lv_goto (tgt := 5) hx hb dX11_inBells_62 (by decide) ?_
          exact ih M1016 x y ((u) + (r1015)) (z + 1) h _ _ hW hS ls (lv_sub hl [2, 3, 4, 1, 0] rfl)
set_option maxHeartbeats 4000000 in
set_option maxRecDepth 100000 in
theorem c_X11_inBells (l : Launch) (g : GD) (M : MM) (x : Int32) (y : Int32) (r : Int32) (M2 : MM) (h : f_X11_inBells M x y = some (r, M2)) : Met l yX11_inBells (wm yX11_inBells cX11_inBells 5 (some .int)) (RM 2 43) (va_Pc [rf g (1697), .int (x), .int (y)] (WDp g M)) (QQ g (fun v w0 => v = .int r ∧ M2 = w0)) 0 0 (AA g) := by
  refine mkM (by decide +kernel) (Nat.le_of_ble_eq_true rfl) ?_
  intro p e s m below meth c C hr hlk hW hS ls hl
  have hl : lv_has ls 5 [(0, rf g (1697)), (1, .int (x)), (2, .int (y))] := hl
  have hx := C.1
  have hb := C.2.1
  have hts := C.2.2.2.2.1
  unfold f_X11_inBells at h
  refine lv_iconst (v := 0) hx hb dX11_inBells_0 (by decide) ?_
  refine lv_istore_n (lv' := [(3, .int (0)), (0, rf g (1697)), (1, .int (x)), (2, .int (y))]) hx hb dX11_inBells_1 rfl hl (by decide) rfl (fun ls hl => ?_)
  refine lv_iconst (v := 0) hx hb dX11_inBells_2 (by decide) ?_
  refine lv_istore (lv' := [(4, .int (0)), (3, .int (0)), (0, rf g (1697)), (1, .int (x)), (2, .int (y))]) hx hb dX11_inBells_3 hl (by decide) rfl (fun ls hl => ?_)
  exact t_X11_inBells_5 l g    FU M x y 0 0 _ _ h C hr hlk _ _ hW hS ls (lv_sub hl [2, 3, 4, 1, 0] rfl)
def f_X11_account (M : MM) (x : Int32) (y : Int32) : Option (Int32 × MM) := (bnd2 (f_X11_isMetal M x) fun r1 M2 => (if (r1 : Int32) = 0 then some (-1, M2) else (if (y : Int32) = 0 then (if vin ((2) + (x)) 1254 then some (M2 21 ((2) + (x) : Int32).toNatClampNeg, M2) else none) else (if (y : Int32) = 1 then (if vin ((0) + (x)) 1254 then some (M2 21 ((0) + (x) : Int32).toNatClampNeg, M2) else none) else (if (y : Int32) = 2 then (if vin ((6) + (x)) 1254 then some (M2 21 ((6) + (x) : Int32).toNatClampNeg, M2) else none) else (if (y : Int32) = 3 then (bnd2 (f_X11_inScrap M2 x) fun r12 M13 => some (r12, M13)) else (if (y : Int32) = 4 then (if (y : Int32) = (5 : Int32) then (bnd2 (f_X11_inBells M2 x 1) fun r20 M21 => some (r20, M21)) else (bnd2 (f_X11_inBells M2 x 0) fun r17 M18 => some (r17, M18))) else (if (y : Int32) = 5 then (if (y : Int32) = (5 : Int32) then (bnd2 (f_X11_inBells M2 x 1) fun r28 M29 => some (r28, M29)) else (bnd2 (f_X11_inBells M2 x 0) fun r25 M26 => some (r25, M26))) else (if (y : Int32) = 6 then (if vin ((4) + (x)) 1254 then some (M2 21 ((4) + (x) : Int32).toNatClampNeg, M2) else none) else some (-1, M2))))))))))
set_option maxHeartbeats 4000000 in
set_option maxRecDepth 100000 in
theorem c_X11_account (l : Launch) (g : GD) (M : MM) (x : Int32) (y : Int32) (r : Int32) (M2 : MM) (h : f_X11_account M x y = some (r, M2)) : Met l yX11_account (wm yX11_account cX11_account 3 (some .int)) (RM 3 67) (va_Pc [rf g (1697), .int (x), .int (y)] (WDp g M)) (QQ g (fun v w0 => v = .int r ∧ M2 = w0)) 0 0 (AA g) := by
  refine mkM (by decide +kernel) (Nat.le_of_ble_eq_true rfl) ?_
  intro p e s m below meth c C hr hlk hW hS ls hl
  have hl : lv_has ls 3 [(0, rf g (1697)), (1, .int (x)), (2, .int (y))] := hl
  have hx := C.1
  have hb := C.2.1
  have hts := C.2.2.2.2.1
  unfold f_X11_account at h
  refine lv_iload_n hx hb dX11_account_0 rfl (lv_at hl 1 rfl) ?_
  obtain ⟨r1, M2, h3, h⟩ := bind2 h
  refine cBack C.2.2.2.2.2.2.2.2 (runS (As := [.int (x)]) (rest := []) C hW hS (c_X11_isMetal l g M x _ _ h3) kS_X11_isMetal ml_X11_79 rfl hl.1 rfl (Nat.le_of_ble_eq_true rfl) ⟨Nat.le_of_ble_eq_true rfl, Nat.le_of_ble_eq_true rfl⟩ ⟨Nat.zero_le _, Nat.zero_le _⟩ dX11_account_1) hS (fun v0 w0 H locs hp hW hS => ?_)
  obtain ⟨rfl, rfl, zr1⟩ := hp
  refine lv_if_ne (tgt := 9) hx hb dX11_account_4 (by decide) (fun c4 => ?_) (fun c4 => ?_)
  · rw [if_neg c4] at h
    refine lv_iload_n hx hb dX11_account_9 rfl (lv_at hl 2 rfl) ?_
    by_cases c5 : (y : Int32) = 0
    · rw [if_pos c5] at h
      refine lv_tableIn (off := 42) (tgt := 52) hx hb dX11_account_10 (by rw [c5]; decide) (by rw [c5]; decide) (by rw [c5]; rfl) (by decide) ?_
      refine lv_aload_n hx hb dX11_account_52 rfl (lv_at hl 0 rfl) ?_
      refine rGet (k := 0) C hW (by decide) tm_Model rfl inX11 (by decide) fl_X11_7 rfl dX11_account_53 ?_
      refine lv_iconst (v := 2) hx hb dX11_account_56 (by decide) ?_
      refine lv_iload_n hx hb dX11_account_57 rfl (lv_at hl 1 rfl) ?_
      refine lv_iadd hx hb dX11_account_58 ?_
      have s6 : vin ((2) + (x)) 1254 := Classical.byContradiction fun q9 => by rw [if_neg q9] at h; cases h
      rw [if_pos s6] at h
      refine rIld C hW (by decide) tm_s s6 dX11_account_59 ?_
      cases h
      exact rI C hr hlk dX11_account_60 hW hS ⟨rfl, rfl⟩
    rw [if_neg c5] at h
    by_cases c7 : (y : Int32) = 1
    · rw [if_pos c7] at h
      refine lv_tableIn (off := 51) (tgt := 61) hx hb dX11_account_10 (by rw [c7]; decide) (by rw [c7]; decide) (by rw [c7]; rfl) (by decide) ?_
      refine lv_aload_n hx hb dX11_account_61 rfl (lv_at hl 0 rfl) ?_
      refine rGet (k := 0) C hW (by decide) tm_Model rfl inX11 (by decide) fl_X11_7 rfl dX11_account_62 ?_
      refine lv_iconst (v := 0) hx hb dX11_account_65 (by decide) ?_
      refine lv_iload_n hx hb dX11_account_66 rfl (lv_at hl 1 rfl) ?_
      refine lv_iadd hx hb dX11_account_67 ?_
      have s8 : vin ((0) + (x)) 1254 := Classical.byContradiction fun q9 => by rw [if_neg q9] at h; cases h
      rw [if_pos s8] at h
      refine rIld C hW (by decide) tm_s s8 dX11_account_68 ?_
      cases h
      exact rI C hr hlk dX11_account_69 hW hS ⟨rfl, rfl⟩
    rw [if_neg c7] at h
    by_cases c9 : (y : Int32) = 2
    · rw [if_pos c9] at h
      refine lv_tableIn (off := 60) (tgt := 70) hx hb dX11_account_10 (by rw [c9]; decide) (by rw [c9]; decide) (by rw [c9]; rfl) (by decide) ?_
      refine lv_aload_n hx hb dX11_account_70 rfl (lv_at hl 0 rfl) ?_
      refine rGet (k := 0) C hW (by decide) tm_Model rfl inX11 (by decide) fl_X11_7 rfl dX11_account_71 ?_
      refine lv_bipush (v := 6) hx hb dX11_account_74 (by decide) ?_
      refine lv_iload_n hx hb dX11_account_76 rfl (lv_at hl 1 rfl) ?_
      refine lv_iadd hx hb dX11_account_77 ?_
      have s10 : vin ((6) + (x)) 1254 := Classical.byContradiction fun q9 => by rw [if_neg q9] at h; cases h
      rw [if_pos s10] at h
      refine rIld C hW (by decide) tm_s s10 dX11_account_78 ?_
      cases h
      exact rI C hr hlk dX11_account_79 hW hS ⟨rfl, rfl⟩
    rw [if_neg c9] at h
    by_cases c11 : (y : Int32) = 3
    · rw [if_pos c11] at h
      refine lv_tableIn (off := 70) (tgt := 80) hx hb dX11_account_10 (by rw [c11]; decide) (by rw [c11]; decide) (by rw [c11]; rfl) (by decide) ?_
      refine lv_aload_n hx hb dX11_account_80 rfl (lv_at hl 0 rfl) ?_
      refine lv_iload_n hx hb dX11_account_81 rfl (lv_at hl 1 rfl) ?_
      obtain ⟨r12, M13, h14, h⟩ := bind2 h
      refine cBack C.2.2.2.2.2.2.2.2 (runV (As := [.int (x)]) (rest := []) C hW hS (c_X11_inScrap l g M2 x _ _ h14) kV_X11_inScrap ml_X11_172 (by decide) tm_Model rfl rfl rfl hl.1 rfl (Nat.le_of_ble_eq_true rfl) ⟨Nat.le_of_ble_eq_true rfl, Nat.le_of_ble_eq_true rfl⟩ ⟨Nat.zero_le _, Nat.zero_le _⟩ dX11_account_82) hS (fun v0 w0 H locs hp hW hS => ?_)
      obtain ⟨rfl, rfl⟩ := hp
      cases h
      exact rI C hr hlk dX11_account_85 hW hS ⟨rfl, rfl⟩
    rw [if_neg c11] at h
    by_cases c15 : (y : Int32) = 4
    · rw [if_pos c15] at h
      refine lv_tableIn (off := 76) (tgt := 86) hx hb dX11_account_10 (by rw [c15]; decide) (by rw [c15]; decide) (by rw [c15]; rfl) (by decide) ?_
      refine lv_aload_n hx hb dX11_account_86 rfl (lv_at hl 0 rfl) ?_
      refine lv_iload_n hx hb dX11_account_87 rfl (lv_at hl 1 rfl) ?_
      refine lv_iload_n hx hb dX11_account_88 rfl (lv_at hl 2 rfl) ?_
      refine lv_iconst (v := 5) hx hb dX11_account_89 (by decide) ?_
      refine lv_icmp_ne (tgt := 97) hx hb dX11_account_90 (by decide) (fun c16 => ?_) (fun c16 => ?_)
      · rw [if_neg c16] at h
        refine lv_iconst (v := 0) hx hb dX11_account_97 (by decide) ?_
        obtain ⟨r17, M18, h19, h⟩ := bind2 h
        refine cBack C.2.2.2.2.2.2.2.2 (runV (As := [.int (x), .int (0)]) (rest := []) C hW hS (c_X11_inBells l g M2 x 0 _ _ h19) kV_X11_inBells ml_X11_175 (by decide) tm_Model rfl rfl rfl hl.1 rfl (Nat.le_of_ble_eq_true rfl) ⟨Nat.le_of_ble_eq_true rfl, Nat.le_of_ble_eq_true rfl⟩ ⟨Nat.zero_le _, Nat.zero_le _⟩ dX11_account_98) hS (fun v0 w0 H locs hp hW hS => ?_)
        obtain ⟨rfl, rfl⟩ := hp
        cases h
        exact rI C hr hlk dX11_account_101 hW hS ⟨rfl, rfl⟩
      · rw [if_pos c16] at h
        refine lv_iconst (v := 1) hx hb dX11_account_93 (by decide) ?_
        refine lv_goto (tgt := 98) hx hb dX11_account_94 (by decide) ?_
        obtain ⟨r20, M21, h22, h⟩ := bind2 h
        refine cBack C.2.2.2.2.2.2.2.2 (runV (As := [.int (x), .int (1)]) (rest := []) C hW hS (c_X11_inBells l g M2 x 1 _ _ h22) kV_X11_inBells ml_X11_175 (by decide) tm_Model rfl rfl rfl hl.1 rfl (Nat.le_of_ble_eq_true rfl) ⟨Nat.le_of_ble_eq_true rfl, Nat.le_of_ble_eq_true rfl⟩ ⟨Nat.zero_le _, Nat.zero_le _⟩ dX11_account_98) hS (fun v0 w0 H locs hp hW hS => ?_)
        obtain ⟨rfl, rfl⟩ := hp
        cases h
        exact rI C hr hlk dX11_account_101 hW hS ⟨rfl, rfl⟩
    rw [if_neg c15] at h
    by_cases c23 : (y : Int32) = 5
    · rw [if_pos c23] at h
      refine lv_tableIn (off := 76) (tgt := 86) hx hb dX11_account_10 (by rw [c23]; decide) (by rw [c23]; decide) (by rw [c23]; rfl) (by decide) ?_
      refine lv_aload_n hx hb dX11_account_86 rfl (lv_at hl 0 rfl) ?_
      refine lv_iload_n hx hb dX11_account_87 rfl (lv_at hl 1 rfl) ?_
      refine lv_iload_n hx hb dX11_account_88 rfl (lv_at hl 2 rfl) ?_
      refine lv_iconst (v := 5) hx hb dX11_account_89 (by decide) ?_
      refine lv_icmp_ne (tgt := 97) hx hb dX11_account_90 (by decide) (fun c24 => ?_) (fun c24 => ?_)
      · rw [if_neg c24] at h
        refine lv_iconst (v := 0) hx hb dX11_account_97 (by decide) ?_
        obtain ⟨r25, M26, h27, h⟩ := bind2 h
        refine cBack C.2.2.2.2.2.2.2.2 (runV (As := [.int (x), .int (0)]) (rest := []) C hW hS (c_X11_inBells l g M2 x 0 _ _ h27) kV_X11_inBells ml_X11_175 (by decide) tm_Model rfl rfl rfl hl.1 rfl (Nat.le_of_ble_eq_true rfl) ⟨Nat.le_of_ble_eq_true rfl, Nat.le_of_ble_eq_true rfl⟩ ⟨Nat.zero_le _, Nat.zero_le _⟩ dX11_account_98) hS (fun v0 w0 H locs hp hW hS => ?_)
        obtain ⟨rfl, rfl⟩ := hp
        cases h
        exact rI C hr hlk dX11_account_101 hW hS ⟨rfl, rfl⟩
      · rw [if_pos c24] at h
        refine lv_iconst (v := 1) hx hb dX11_account_93 (by decide) ?_
        refine lv_goto (tgt := 98) hx hb dX11_account_94 (by decide) ?_
        obtain ⟨r28, M29, h30, h⟩ := bind2 h
        refine cBack C.2.2.2.2.2.2.2.2 (runV (As := [.int (x), .int (1)]) (rest := []) C hW hS (c_X11_inBells l g M2 x 1 _ _ h30) kV_X11_inBells ml_X11_175 (by decide) tm_Model rfl rfl rfl hl.1 rfl (Nat.le_of_ble_eq_true rfl) ⟨Nat.le_of_ble_eq_true rfl, Nat.le_of_ble_eq_true rfl⟩ ⟨Nat.zero_le _, Nat.zero_le _⟩ dX11_account_98) hS (fun v0 w0 H locs hp hW hS => ?_)
        obtain ⟨rfl, rfl⟩ := hp
        cases h
        exact rI C hr hlk dX11_account_101 hW hS ⟨rfl, rfl⟩
    rw [if_neg c23] at h
    by_cases c31 : (y : Int32) = 6
    · rw [if_pos c31] at h
      refine lv_tableIn (off := 92) (tgt := 102) hx hb dX11_account_10 (by rw [c31]; decide) (by rw [c31]; decide) (by rw [c31]; rfl) (by decide) ?_
      refine lv_aload_n hx hb dX11_account_102 rfl (lv_at hl 0 rfl) ?_
      refine rGet (k := 0) C hW (by decide) tm_Model rfl inX11 (by decide) fl_X11_7 rfl dX11_account_103 ?_
      refine lv_iconst (v := 4) hx hb dX11_account_106 (by decide) ?_
      refine lv_iload_n hx hb dX11_account_107 rfl (lv_at hl 1 rfl) ?_
      refine lv_iadd hx hb dX11_account_108 ?_
      have s32 : vin ((4) + (x)) 1254 := Classical.byContradiction fun q9 => by rw [if_neg q9] at h; cases h
      rw [if_pos s32] at h
      refine rIld C hW (by decide) tm_s s32 dX11_account_109 ?_
      cases h
      exact rI C hr hlk dX11_account_110 hW hS ⟨rfl, rfl⟩
    rw [if_neg c31] at h
    refine lv_tableOut (tgt := 111) hx hb dX11_account_10 (by have nc5 := lv_neT (a := 0) c5 rfl; have nc7 := lv_neT (a := 1) c7 rfl; have nc9 := lv_neT (a := 2) c9 rfl; have nc11 := lv_neT (a := 3) c11 rfl; have nc15 := lv_neT (a := 4) c15 rfl; have nc23 := lv_neT (a := 5) c23 rfl; have nc31 := lv_neT (a := 6) c31 rfl; omega) (by decide) ?_
    refine lv_iconst (v := -1) hx hb dX11_account_111 (by decide) ?_
    cases h
    exact rI C hr hlk dX11_account_112 hW hS ⟨rfl, rfl⟩
  · rw [if_pos c4] at h
    refine lv_iconst (v := -1) hx hb dX11_account_7 (by decide) ?_
    cases h
    exact rI C hr hlk dX11_account_8 hW hS ⟨rfl, rfl⟩
def f_X11_count (M : MM) (x : Int32) : Option (Int32 × MM) := (if (x : Int32) = 0 then (if vin (8) 1254 then some (M 21 (8 : Int32).toNatClampNeg, M) else none) else (if (x : Int32) = 1 then (if vin (52) 1254 then some (M 21 (52 : Int32).toNatClampNeg, M) else none) else (if (x : Int32) = 2 then (bnd2 (f_X11_here M ) fun r6 M7 => some (r6, M7)) else (if (x : Int32) = 3 then (bnd2 (f_X11_bellsThatAre M 1) fun r10 M11 => some (r10, M11)) else (if (x : Int32) = 4 then (bnd2 (f_X11_bellsThatAre M 2) fun r14 M15 => some (r14, M15)) else (if (x : Int32) = 5 then (if vin (53) 1254 then some (M 21 (53 : Int32).toNatClampNeg, M) else none) else (if (x : Int32) = 6 then (bnd2 (f_X11_ordersThatAre M ((x) - (6))) fun r20 M21 => some (r20, M21)) else (if (x : Int32) = 7 then (bnd2 (f_X11_ordersThatAre M ((x) - (6))) fun r24 M25 => some (r24, M25)) else (if (x : Int32) = 8 then some (M 20 3, M) else (if (x : Int32) = 9 then some (M 20 8, M) else (bnd2 (f_X11_in M x 20 26) fun r29 M30 => (if (r29 : Int32) = 0 then some (-1, M30) else (bnd2 (f_X11_setting M30 ((x) - (20))) fun r33 M34 => some (r33, M34))))))))))))))
set_option maxHeartbeats 4000000 in
set_option maxRecDepth 100000 in
theorem c_X11_count (l : Launch) (g : GD) (M : MM) (x : Int32) (r : Int32) (M2 : MM) (h : f_X11_count M x = some (r, M2)) : Met l yX11_count (wm yX11_count cX11_count 2 (some .int)) (RM 3 65) (va_Pc [rf g (1697), .int (x)] (WDp g M)) (QQ g (fun v w0 => v = .int r ∧ M2 = w0)) 0 0 (AA g) := by
  refine mkM (by decide +kernel) (Nat.le_of_ble_eq_true rfl) ?_
  intro p e s m below meth c C hr hlk hW hS ls hl
  have hl : lv_has ls 2 [(0, rf g (1697)), (1, .int (x))] := hl
  have hx := C.1
  have hb := C.2.1
  have hts := C.2.2.2.2.1
  unfold f_X11_count at h
  refine lv_iload_n hx hb dX11_count_0 rfl (lv_at hl 1 rfl) ?_
  by_cases c1 : (x : Int32) = 0
  · rw [if_pos c1] at h
    refine lv_tableIn (off := 55) (tgt := 56) hx hb dX11_count_1 (by rw [c1]; decide) (by rw [c1]; decide) (by rw [c1]; rfl) (by decide) ?_
    refine lv_aload_n hx hb dX11_count_56 rfl (lv_at hl 0 rfl) ?_
    refine rGet (k := 0) C hW (by decide) tm_Model rfl inX11 (by decide) fl_X11_7 rfl dX11_count_57 ?_
    refine lv_bipush (v := 8) hx hb dX11_count_60 (by decide) ?_
    have s2 : vin (8) 1254 := Classical.byContradiction fun q9 => by rw [if_neg q9] at h; cases h
    rw [if_pos s2] at h
    refine rIld C hW (by decide) tm_s s2 dX11_count_62 ?_
    cases h
    exact rI C hr hlk dX11_count_63 hW hS ⟨rfl, rfl⟩
  rw [if_neg c1] at h
  by_cases c3 : (x : Int32) = 1
  · rw [if_pos c3] at h
    refine lv_tableIn (off := 63) (tgt := 64) hx hb dX11_count_1 (by rw [c3]; decide) (by rw [c3]; decide) (by rw [c3]; rfl) (by decide) ?_
    refine lv_aload_n hx hb dX11_count_64 rfl (lv_at hl 0 rfl) ?_
    refine rGet (k := 0) C hW (by decide) tm_Model rfl inX11 (by decide) fl_X11_7 rfl dX11_count_65 ?_
    refine lv_bipush (v := 52) hx hb dX11_count_68 (by decide) ?_
    have s4 : vin (52) 1254 := Classical.byContradiction fun q9 => by rw [if_neg q9] at h; cases h
    rw [if_pos s4] at h
    refine rIld C hW (by decide) tm_s s4 dX11_count_70 ?_
    cases h
    exact rI C hr hlk dX11_count_71 hW hS ⟨rfl, rfl⟩
  rw [if_neg c3] at h
  by_cases c5 : (x : Int32) = 2
  · rw [if_pos c5] at h
    refine lv_tableIn (off := 71) (tgt := 72) hx hb dX11_count_1 (by rw [c5]; decide) (by rw [c5]; decide) (by rw [c5]; rfl) (by decide) ?_
    refine lv_aload_n hx hb dX11_count_72 rfl (lv_at hl 0 rfl) ?_
    obtain ⟨r6, M7, h8, h⟩ := bind2 h
    refine cBack C.2.2.2.2.2.2.2.2 (runV (As := []) (rest := []) C hW hS (c_X11_here l g M  _ _ h8) kV_X11_here ml_X11_125 (by decide) tm_Model rfl rfl rfl hl.1 rfl (Nat.le_of_ble_eq_true rfl) ⟨Nat.le_of_ble_eq_true rfl, Nat.le_of_ble_eq_true rfl⟩ ⟨Nat.zero_le _, Nat.zero_le _⟩ dX11_count_73) hS (fun v0 w0 H locs hp hW hS => ?_)
    obtain ⟨rfl, rfl⟩ := hp
    cases h
    exact rI C hr hlk dX11_count_76 hW hS ⟨rfl, rfl⟩
  rw [if_neg c5] at h
  by_cases c9 : (x : Int32) = 3
  · rw [if_pos c9] at h
    refine lv_tableIn (off := 76) (tgt := 77) hx hb dX11_count_1 (by rw [c9]; decide) (by rw [c9]; decide) (by rw [c9]; rfl) (by decide) ?_
    refine lv_aload_n hx hb dX11_count_77 rfl (lv_at hl 0 rfl) ?_
    refine lv_iconst (v := 1) hx hb dX11_count_78 (by decide) ?_
    obtain ⟨r10, M11, h12, h⟩ := bind2 h
    refine cBack C.2.2.2.2.2.2.2.2 (runV (As := [.int (1)]) (rest := []) C hW hS (c_X11_bellsThatAre l g M 1 _ _ h12) kV_X11_bellsThatAre ml_X11_179 (by decide) tm_Model rfl rfl rfl hl.1 rfl (Nat.le_of_ble_eq_true rfl) ⟨Nat.le_of_ble_eq_true rfl, Nat.le_of_ble_eq_true rfl⟩ ⟨Nat.zero_le _, Nat.zero_le _⟩ dX11_count_79) hS (fun v0 w0 H locs hp hW hS => ?_)
    obtain ⟨rfl, rfl⟩ := hp
    cases h
    exact rI C hr hlk dX11_count_82 hW hS ⟨rfl, rfl⟩
  rw [if_neg c9] at h
  by_cases c13 : (x : Int32) = 4
  · rw [if_pos c13] at h
    refine lv_tableIn (off := 82) (tgt := 83) hx hb dX11_count_1 (by rw [c13]; decide) (by rw [c13]; decide) (by rw [c13]; rfl) (by decide) ?_
    refine lv_aload_n hx hb dX11_count_83 rfl (lv_at hl 0 rfl) ?_
    refine lv_iconst (v := 2) hx hb dX11_count_84 (by decide) ?_
    obtain ⟨r14, M15, h16, h⟩ := bind2 h
    refine cBack C.2.2.2.2.2.2.2.2 (runV (As := [.int (2)]) (rest := []) C hW hS (c_X11_bellsThatAre l g M 2 _ _ h16) kV_X11_bellsThatAre ml_X11_179 (by decide) tm_Model rfl rfl rfl hl.1 rfl (Nat.le_of_ble_eq_true rfl) ⟨Nat.le_of_ble_eq_true rfl, Nat.le_of_ble_eq_true rfl⟩ ⟨Nat.zero_le _, Nat.zero_le _⟩ dX11_count_85) hS (fun v0 w0 H locs hp hW hS => ?_)
    obtain ⟨rfl, rfl⟩ := hp
    cases h
    exact rI C hr hlk dX11_count_88 hW hS ⟨rfl, rfl⟩
  rw [if_neg c13] at h
  by_cases c17 : (x : Int32) = 5
  · rw [if_pos c17] at h
    refine lv_tableIn (off := 88) (tgt := 89) hx hb dX11_count_1 (by rw [c17]; decide) (by rw [c17]; decide) (by rw [c17]; rfl) (by decide) ?_
    refine lv_aload_n hx hb dX11_count_89 rfl (lv_at hl 0 rfl) ?_
    refine rGet (k := 0) C hW (by decide) tm_Model rfl inX11 (by decide) fl_X11_7 rfl dX11_count_90 ?_
    refine lv_bipush (v := 53) hx hb dX11_count_93 (by decide) ?_
    have s18 : vin (53) 1254 := Classical.byContradiction fun q9 => by rw [if_neg q9] at h; cases h
    rw [if_pos s18] at h
    refine rIld C hW (by decide) tm_s s18 dX11_count_95 ?_
    cases h
    exact rI C hr hlk dX11_count_96 hW hS ⟨rfl, rfl⟩
  rw [if_neg c17] at h
  by_cases c19 : (x : Int32) = 6
  · rw [if_pos c19] at h
    refine lv_tableIn (off := 96) (tgt := 97) hx hb dX11_count_1 (by rw [c19]; decide) (by rw [c19]; decide) (by rw [c19]; rfl) (by decide) ?_
    refine lv_aload_n hx hb dX11_count_97 rfl (lv_at hl 0 rfl) ?_
    refine lv_iload_n hx hb dX11_count_98 rfl (lv_at hl 1 rfl) ?_
    refine lv_bipush (v := 6) hx hb dX11_count_99 (by decide) ?_
    refine lv_isub hx hb dX11_count_101 ?_
    obtain ⟨r20, M21, h22, h⟩ := bind2 h
    refine cBack C.2.2.2.2.2.2.2.2 (runV (As := [.int ((x) - (6))]) (rest := []) C hW hS (c_X11_ordersThatAre l g M ((x) - (6)) _ _ h22) kV_X11_ordersThatAre ml_X11_154 (by decide) tm_Model rfl rfl rfl hl.1 rfl (Nat.le_of_ble_eq_true rfl) ⟨Nat.le_of_ble_eq_true rfl, Nat.le_of_ble_eq_true rfl⟩ ⟨Nat.zero_le _, Nat.zero_le _⟩ dX11_count_102) hS (fun v0 w0 H locs hp hW hS => ?_)
    obtain ⟨rfl, rfl⟩ := hp
    cases h
    exact rI C hr hlk dX11_count_105 hW hS ⟨rfl, rfl⟩
  rw [if_neg c19] at h
  by_cases c23 : (x : Int32) = 7
  · rw [if_pos c23] at h
    refine lv_tableIn (off := 96) (tgt := 97) hx hb dX11_count_1 (by rw [c23]; decide) (by rw [c23]; decide) (by rw [c23]; rfl) (by decide) ?_
    refine lv_aload_n hx hb dX11_count_97 rfl (lv_at hl 0 rfl) ?_
    refine lv_iload_n hx hb dX11_count_98 rfl (lv_at hl 1 rfl) ?_
    refine lv_bipush (v := 6) hx hb dX11_count_99 (by decide) ?_
    refine lv_isub hx hb dX11_count_101 ?_
    obtain ⟨r24, M25, h26, h⟩ := bind2 h
    refine cBack C.2.2.2.2.2.2.2.2 (runV (As := [.int ((x) - (6))]) (rest := []) C hW hS (c_X11_ordersThatAre l g M ((x) - (6)) _ _ h26) kV_X11_ordersThatAre ml_X11_154 (by decide) tm_Model rfl rfl rfl hl.1 rfl (Nat.le_of_ble_eq_true rfl) ⟨Nat.le_of_ble_eq_true rfl, Nat.le_of_ble_eq_true rfl⟩ ⟨Nat.zero_le _, Nat.zero_le _⟩ dX11_count_102) hS (fun v0 w0 H locs hp hW hS => ?_)
    obtain ⟨rfl, rfl⟩ := hp
    cases h
    exact rI C hr hlk dX11_count_105 hW hS ⟨rfl, rfl⟩
  rw [if_neg c23] at h
  by_cases c27 : (x : Int32) = 8
  · rw [if_pos c27] at h
    refine lv_tableIn (off := 105) (tgt := 106) hx hb dX11_count_1 (by rw [c27]; decide) (by rw [c27]; decide) (by rw [c27]; rfl) (by decide) ?_
    refine lv_aload_n hx hb dX11_count_106 rfl (lv_at hl 0 rfl) ?_
    refine rGet (k := 3) C hW (by decide) tm_Model rfl inX11 (by decide) fl_X11_43 rfl dX11_count_107 ?_
    cases h
    exact rI C hr hlk dX11_count_110 hW hS ⟨rfl, rfl⟩
  rw [if_neg c27] at h
  by_cases c28 : (x : Int32) = 9
  · rw [if_pos c28] at h
    refine lv_tableIn (off := 110) (tgt := 111) hx hb dX11_count_1 (by rw [c28]; decide) (by rw [c28]; decide) (by rw [c28]; rfl) (by decide) ?_
    refine lv_aload_n hx hb dX11_count_111 rfl (lv_at hl 0 rfl) ?_
    refine rGet (k := 8) C hW (by decide) tm_Model rfl inX11 (by decide) fl_X11_182 rfl dX11_count_112 ?_
    cases h
    exact rI C hr hlk dX11_count_115 hW hS ⟨rfl, rfl⟩
  rw [if_neg c28] at h
  refine lv_tableOut (tgt := 116) hx hb dX11_count_1 (by have nc1 := lv_neT (a := 0) c1 rfl; have nc3 := lv_neT (a := 1) c3 rfl; have nc5 := lv_neT (a := 2) c5 rfl; have nc9 := lv_neT (a := 3) c9 rfl; have nc13 := lv_neT (a := 4) c13 rfl; have nc17 := lv_neT (a := 5) c17 rfl; have nc19 := lv_neT (a := 6) c19 rfl; have nc23 := lv_neT (a := 7) c23 rfl; have nc27 := lv_neT (a := 8) c27 rfl; have nc28 := lv_neT (a := 9) c28 rfl; omega) (by decide) ?_
  refine lv_iload_n hx hb dX11_count_116 rfl (lv_at hl 1 rfl) ?_
  refine lv_bipush (v := 20) hx hb dX11_count_117 (by decide) ?_
  refine lv_bipush (v := 26) hx hb dX11_count_119 (by decide) ?_
  obtain ⟨r29, M30, h31, h⟩ := bind2 h
  refine cBack C.2.2.2.2.2.2.2.2 (runS (As := [.int (x), .int (20), .int (26)]) (rest := []) C hW hS (c_X11_in l g M x 20 26 _ _ h31) kS_X11_in ml_X11_68 rfl hl.1 rfl (Nat.le_of_ble_eq_true rfl) ⟨Nat.le_of_ble_eq_true rfl, Nat.le_of_ble_eq_true rfl⟩ ⟨Nat.zero_le _, Nat.zero_le _⟩ dX11_count_121) hS (fun v0 w0 H locs hp hW hS => ?_)
  obtain ⟨rfl, rfl, zr29⟩ := hp
  refine lv_if_eq (tgt := 138) hx hb dX11_count_124 (by decide) (fun c32 => ?_) (fun c32 => ?_)
  · rw [if_pos c32] at h
    refine lv_iconst (v := -1) hx hb dX11_count_138 (by decide) ?_
    cases h
    exact rI C hr hlk dX11_count_139 hW hS ⟨rfl, rfl⟩
  · rw [if_neg c32] at h
    refine lv_aload_n hx hb dX11_count_127 rfl (lv_at hl 0 rfl) ?_
    refine lv_iload_n hx hb dX11_count_128 rfl (lv_at hl 1 rfl) ?_
    refine lv_bipush (v := 20) hx hb dX11_count_129 (by decide) ?_
    refine lv_isub hx hb dX11_count_131 ?_
    obtain ⟨r33, M34, h35, h⟩ := bind2 h
    refine cBack C.2.2.2.2.2.2.2.2 (runV (As := [.int ((x) - (20))]) (rest := []) C hW hS (c_X11_setting l g M30 ((x) - (20)) _ _ h35) kV_X11_setting ml_X11_61 (by decide) tm_Model rfl rfl rfl hl.1 rfl (Nat.le_of_ble_eq_true rfl) ⟨Nat.le_of_ble_eq_true rfl, Nat.le_of_ble_eq_true rfl⟩ ⟨Nat.zero_le _, Nat.zero_le _⟩ dX11_count_132) hS (fun v0 w0 H locs hp hW hS => ?_)
    obtain ⟨rfl, rfl⟩ := hp
    refine lv_goto (tgt := 139) hx hb dX11_count_135 (by decide) ?_
    cases h
    exact rI C hr hlk dX11_count_139 hW hS ⟨rfl, rfl⟩
def lp_X11_undo_22 (fu : Nat) (M : MM)  (z : Int32) : Option (Int32 × MM) := match fu with
  | 0 => none
  | n + 1 => (if (1254 : Int32) ≤ (z : Int32) then some (M 20 3, M) else (if vin (((1254) * (M 20 3)) + (z)) 5016 then (if vin (z) 1254 then (letB (up2 M 21 (z : Int32).toNatClampNeg (M 22 (((1254) * (M 20 3)) + (z) : Int32).toNatClampNeg)) fun M1004 => (lp_X11_undo_22 n M1004   (z + 1))) else none) else none))
def f_X11_undo (M : MM)  : Option (Int32 × MM) := (if (M 20 3 : Int32) = 0 then some (-2, M) else (letB (up2 M 20 3 ((M 20 3) - (1))) fun M2 => (lp_X11_undo_22 FU M2   0)))
set_option maxHeartbeats 4000000 in
set_option maxRecDepth 100000 in
theorem t_X11_undo_22 (l : Launch) (g : GD) {p : Program} {e : Env} {s : State} {m : MethodId} {av : Array Value} {below : List Frame} {meth : Method} {c : Code}  (n : Nat) : ∀ (M : MM) (z : Int32) (r : Int32) (M2 : MM), lp_X11_undo_22 n M   z = some (r, M2) → CX p s m av c cX11_undo 2 RX11 g → meth.sig.returnType = (some .int) → meth.locks = false → ∀ (H : Heap) (locs : List Loc), Wd g M H → sS g s H locs → ∀ ls : Array Slot, lv_has ls 2 [(0, rf g (1697)), (1, .int (z))] → W p l e (RM 0 0) s m av below meth c H locs 0 0 (MQ below (QQ g (fun v w0 => v = .int r ∧ M2 = w0)) av s 0 0 (AA g)) (F0 m 22 ls []) := by
  induction n with
  | zero => intro M z r M2 h; cases h
  | succ n ih0 =>
    intro M z r M2 h C hr hlk H locs hW hS ls hl
    have ih : ∀ (M : MM) (z : Int32), lp_X11_undo_22 n M   z = some (r, M2) → ∀ (H : Heap) (locs : List Loc), Wd g M H → sS g s H locs → ∀ ls : Array Slot, lv_has ls 2 [(0, rf g (1697)), (1, .int (z))] → W p l e (RM 0 0) s m av below meth c H locs 0 0 (MQ below (QQ g (fun v w0 => v = .int r ∧ M2 = w0)) av s 0 0 (AA g)) (F0 m 22 ls []) := fun M z h H locs hW hS ls hl => ih0 M z r M2 h C hr hlk H locs hW hS ls hl
    unfold lp_X11_undo_22 at h
    try dsimp only at h
    have hx := C.1
    have hb := C.2.1
    have hts := C.2.2.2.2.1
    refine lv_iload_n hx hb dX11_undo_22 rfl (lv_at hl 1 rfl) ?_
    refine lv_sipush (v := 1254) hx hb dX11_undo_23 (by decide) ?_
    refine lv_icmp_ge (tgt := 56) hx hb dX11_undo_26 (by decide) (fun c1001 => ?_) (fun c1001 => ?_)
    · rw [if_pos c1001] at h
      refine lv_aload_n hx hb dX11_undo_56 rfl (lv_at hl 0 rfl) ?_
      refine rGet (k := 3) C hW (by decide) tm_Model rfl inX11 (by decide) fl_X11_43 rfl dX11_undo_57 ?_
      cases h
      exact rI C hr hlk dX11_undo_60 hW hS ⟨rfl, rfl⟩
    · rw [if_neg c1001] at h
      refine lv_aload_n hx hb dX11_undo_29 rfl (lv_at hl 0 rfl) ?_
      refine rGet (k := 0) C hW (by decide) tm_Model rfl inX11 (by decide) fl_X11_7 rfl dX11_undo_30 ?_
      refine lv_iload_n hx hb dX11_undo_33 rfl (lv_at hl 1 rfl) ?_
      refine lv_aload_n hx hb dX11_undo_34 rfl (lv_at hl 0 rfl) ?_
      refine rGet (k := 1) C hW (by decide) tm_Model rfl inX11 (by decide) fl_X11_13 rfl dX11_undo_35 ?_
      refine lv_sipush (v := 1254) hx hb dX11_undo_38 (by decide) ?_
      refine lv_aload_n hx hb dX11_undo_41 rfl (lv_at hl 0 rfl) ?_
      refine rGet (k := 3) C hW (by decide) tm_Model rfl inX11 (by decide) fl_X11_43 rfl dX11_undo_42 ?_
      refine lv_imul hx hb dX11_undo_45 ?_
      refine lv_iload_n hx hb dX11_undo_46 rfl (lv_at hl 1 rfl) ?_
      refine lv_iadd hx hb dX11_undo_47 ?_
      have s1002 : vin (((1254) * (M 20 3)) + (z)) 5016 := Classical.byContradiction fun q9 => by rw [if_neg q9] at h; cases h
      rw [if_pos s1002] at h
      refine rIld C hW (by decide) tm_past s1002 dX11_undo_48 ?_
      have s1003 : vin (z) 1254 := Classical.byContradiction fun q9 => by rw [if_neg q9] at h; cases h
      rw [if_pos s1003] at h
      refine rIst (M' := up2 M 21 (z : Int32).toNatClampNeg (M 22 (((1254) * (M 20 3)) + (z) : Int32).toNatClampNeg)) C hW hS (by decide) tm_s s1003 (UPD_G (by decide) rfl (by rw [tm_s, up2_gr])) dX11_undo_49 (fun H locs hW hS => ?_)
      have hW : Wd g (up2 M 21 (z : Int32).toNatClampNeg (M 22 (((1254) * (M 20 3)) + (z) : Int32).toNatClampNeg)) H := hW
      have h := letE h
      generalize up2 M 21 (z : Int32).toNatClampNeg (M 22 (((1254) * (M 20 3)) + (z) : Int32).toNatClampNeg) = M1004 at hW h
      refine lv_iinc (v := z + 1) (lv' := [(1, .int (z + 1)), (0, rf g (1697))]) hx hb dX11_undo_50 hl (k := 1) rfl rfl (by decide) rfl (fun ls hl => ?_)
      refine lv_goto (tgt := 22) hx hb dX11_undo_53 (by decide) ?_
      exact ih M1004 (z + 1) h _ _ hW hS ls (lv_sub hl [1, 0] rfl)
set_option maxHeartbeats 4000000 in
set_option maxRecDepth 100000 in
theorem c_X11_undo (l : Launch) (g : GD) (M : MM)  (r : Int32) (M2 : MM) (h : f_X11_undo M  = some (r, M2)) : Met l yX11_undo (wm yX11_undo cX11_undo 2 (some .int)) (RM 0 0) (va_Pc [rf g (1697)] (WDp g M)) (QQ g (fun v w0 => v = .int r ∧ M2 = w0)) 0 0 (AA g) := by
  refine mkM (by decide +kernel) (Nat.le_of_ble_eq_true rfl) ?_
  intro p e s m below meth c C hr hlk hW hS ls hl
  have hl : lv_has ls 2 [(0, rf g (1697))] := hl
  have hx := C.1
  have hb := C.2.1
  have hts := C.2.2.2.2.1
  unfold f_X11_undo at h
  refine lv_aload_n hx hb dX11_undo_0 rfl (lv_at hl 0 rfl) ?_
  refine rGet (k := 3) C hW (by decide) tm_Model rfl inX11 (by decide) fl_X11_43 rfl dX11_undo_1 ?_
  refine lv_if_ne (tgt := 10) hx hb dX11_undo_4 (by decide) (fun c1 => ?_) (fun c1 => ?_)
  · rw [if_neg c1] at h
    refine lv_aload_n hx hb dX11_undo_10 rfl (lv_at hl 0 rfl) ?_
    refine lv_dup hx hb dX11_undo_11 rfl ?_
    refine rGet (k := 3) C hW (by decide) tm_Model rfl inX11 (by decide) fl_X11_43 rfl dX11_undo_12 ?_
    refine lv_iconst (v := 1) hx hb dX11_undo_15 (by decide) ?_
    refine lv_isub hx hb dX11_undo_16 ?_
    refine rPut (k := 3) C hW hS (by decide) tm_Model rfl inX11 tyX11_ok nmX11 (by decide) fl_X11_43 rfl (by decide +kernel) (Nat.le_of_ble_eq_true rfl) (upd_Model_kept _) dX11_undo_17 (fun H locs hW hS => ?_)
    have hW : Wd g (up2 M 20 3 ((M 20 3) - (1))) H := hW
    have h := letE h
    generalize up2 M 20 3 ((M 20 3) - (1)) = M2 at hW h
    refine lv_iconst (v := 0) hx hb dX11_undo_20 (by decide) ?_
    refine lv_istore_n (lv' := [(1, .int (0)), (0, rf g (1697))]) hx hb dX11_undo_21 rfl hl (by decide) rfl (fun ls hl => ?_)
    exact t_X11_undo_22 l g    FU M2 0 _ _ h C hr hlk _ _ hW hS ls (lv_sub hl [1, 0] rfl)
  · rw [if_pos c1] at h
    refine lv_bipush (v := -2) hx hb dX11_undo_7 (by decide) ?_
    cases h
    exact rI C hr hlk dX11_undo_9 hW hS ⟨rfl, rfl⟩
def f_X11_type (M : MM) (x : Int32) : Option (Int32 × MM) := (bnd2 (f_X11_in M x 32 126) fun r1 M2 => (if (r1 : Int32) = 0 then some (-1, M2) else (if (M2 20 8 : Int32) = (60 : Int32) then some (-3, M2) else (if vin (M2 20 8) 60 then (letB (up2 M2 27 (M2 20 8 : Int32).toNatClampNeg (x)) fun M7 => (letB (up2 M7 20 8 ((M7 20 8) + (1))) fun M8 => some (M8 20 8, M8))) else none))))
set_option maxHeartbeats 4000000 in
set_option maxRecDepth 100000 in
theorem c_X11_type (l : Launch) (g : GD) (M : MM) (x : Int32) (r : Int32) (M2 : MM) (h : f_X11_type M x = some (r, M2)) : Met l yX11_type (wm yX11_type cX11_type 2 (some .int)) (RM 1 22) (va_Pc [rf g (1697), .int (x)] (WDp g M)) (QQ g (fun v w0 => v = .int r ∧ M2 = w0)) 0 0 (AA g) := by
  refine mkM (by decide +kernel) (Nat.le_of_ble_eq_true rfl) ?_
  intro p e s m below meth c C hr hlk hW hS ls hl
  have hl : lv_has ls 2 [(0, rf g (1697)), (1, .int (x))] := hl
  have hx := C.1
  have hb := C.2.1
  have hts := C.2.2.2.2.1
  unfold f_X11_type at h
  refine lv_iload_n hx hb dX11_type_0 rfl (lv_at hl 1 rfl) ?_
  refine lv_bipush (v := 32) hx hb dX11_type_1 (by decide) ?_
  refine lv_bipush (v := 126) hx hb dX11_type_3 (by decide) ?_
  obtain ⟨r1, M2, h3, h⟩ := bind2 h
  refine cBack C.2.2.2.2.2.2.2.2 (runS (As := [.int (x), .int (32), .int (126)]) (rest := []) C hW hS (c_X11_in l g M x 32 126 _ _ h3) kS_X11_in ml_X11_68 rfl hl.1 rfl (Nat.le_of_ble_eq_true rfl) ⟨Nat.le_of_ble_eq_true rfl, Nat.le_of_ble_eq_true rfl⟩ ⟨Nat.zero_le _, Nat.zero_le _⟩ dX11_type_5) hS (fun v0 w0 H locs hp hW hS => ?_)
  obtain ⟨rfl, rfl, zr1⟩ := hp
  refine lv_if_ne (tgt := 13) hx hb dX11_type_8 (by decide) (fun c4 => ?_) (fun c4 => ?_)
  · rw [if_neg c4] at h
    refine lv_aload_n hx hb dX11_type_13 rfl (lv_at hl 0 rfl) ?_
    refine rGet (k := 8) C hW (by decide) tm_Model rfl inX11 (by decide) fl_X11_182 rfl dX11_type_14 ?_
    refine lv_bipush (v := 60) hx hb dX11_type_17 (by decide) ?_
    refine lv_icmp_ne (tgt := 25) hx hb dX11_type_19 (by decide) (fun c5 => ?_) (fun c5 => ?_)
    · rw [if_neg c5] at h
      refine lv_aload_n hx hb dX11_type_25 rfl (lv_at hl 0 rfl) ?_
      refine rGet (k := 7) C hW (by decide) tm_Model rfl inX11 (by decide) fl_X11_28 rfl dX11_type_26 ?_
      refine lv_aload_n hx hb dX11_type_29 rfl (lv_at hl 0 rfl) ?_
      refine rGet (k := 8) C hW (by decide) tm_Model rfl inX11 (by decide) fl_X11_182 rfl dX11_type_30 ?_
      refine lv_iload_n hx hb dX11_type_33 rfl (lv_at hl 1 rfl) ?_
      have s6 : vin (M2 20 8) 60 := Classical.byContradiction fun q9 => by rw [if_neg q9] at h; cases h
      rw [if_pos s6] at h
      refine rIst (M' := up2 M2 27 (M2 20 8 : Int32).toNatClampNeg (x)) C hW hS (by decide) tm_mtext s6 (UPD_G (by decide) rfl (by rw [tm_mtext, up2_gr])) dX11_type_34 (fun H locs hW hS => ?_)
      have hW : Wd g (up2 M2 27 (M2 20 8 : Int32).toNatClampNeg (x)) H := hW
      have h := letE h
      generalize up2 M2 27 (M2 20 8 : Int32).toNatClampNeg (x) = M7 at hW h
      refine lv_aload_n hx hb dX11_type_35 rfl (lv_at hl 0 rfl) ?_
      refine lv_dup hx hb dX11_type_36 rfl ?_
      refine rGet (k := 8) C hW (by decide) tm_Model rfl inX11 (by decide) fl_X11_182 rfl dX11_type_37 ?_
      refine lv_iconst (v := 1) hx hb dX11_type_40 (by decide) ?_
      refine lv_iadd hx hb dX11_type_41 ?_
      refine rPut (k := 8) C hW hS (by decide) tm_Model rfl inX11 tyX11_ok nmX11 (by decide) fl_X11_182 rfl (by decide +kernel) (Nat.le_of_ble_eq_true rfl) (upd_Model_typed _) dX11_type_42 (fun H locs hW hS => ?_)
      have hW : Wd g (up2 M7 20 8 ((M7 20 8) + (1))) H := hW
      have h := letE h
      generalize up2 M7 20 8 ((M7 20 8) + (1)) = M8 at hW h
      refine lv_aload_n hx hb dX11_type_45 rfl (lv_at hl 0 rfl) ?_
      refine rGet (k := 8) C hW (by decide) tm_Model rfl inX11 (by decide) fl_X11_182 rfl dX11_type_46 ?_
      cases h
      exact rI C hr hlk dX11_type_49 hW hS ⟨rfl, rfl⟩
    · rw [if_pos c5] at h
      refine lv_bipush (v := -3) hx hb dX11_type_22 (by decide) ?_
      cases h
      exact rI C hr hlk dX11_type_24 hW hS ⟨rfl, rfl⟩
  · rw [if_pos c4] at h
    refine lv_iconst (v := -1) hx hb dX11_type_11 (by decide) ?_
    cases h
    exact rI C hr hlk dX11_type_12 hW hS ⟨rfl, rfl⟩
def f_X11_clearText (M : MM)  : Option (Int32 × MM) := (letB (up2 M 20 8 (0)) fun M1 => some (M 20 8, M1))
set_option maxHeartbeats 4000000 in
set_option maxRecDepth 100000 in
theorem c_X11_clearText (l : Launch) (g : GD) (M : MM)  (r : Int32) (M2 : MM) (h : f_X11_clearText M  = some (r, M2)) : Met l yX11_clearText (wm yX11_clearText cX11_clearText 2 (some .int)) (RM 0 0) (va_Pc [rf g (1697)] (WDp g M)) (QQ g (fun v w0 => v = .int r ∧ M2 = w0)) 0 0 (AA g) := by
  refine mkM (by decide +kernel) (Nat.le_of_ble_eq_true rfl) ?_
  intro p e s m below meth c C hr hlk hW hS ls hl
  have hl : lv_has ls 2 [(0, rf g (1697))] := hl
  have hx := C.1
  have hb := C.2.1
  have hts := C.2.2.2.2.1
  unfold f_X11_clearText at h
  refine lv_aload_n hx hb dX11_clearText_0 rfl (lv_at hl 0 rfl) ?_
  refine rGet (k := 8) C hW (by decide) tm_Model rfl inX11 (by decide) fl_X11_182 rfl dX11_clearText_1 ?_
  refine lv_istore_n (lv' := [(1, .int (M 20 8)), (0, rf g (1697))]) hx hb dX11_clearText_4 rfl hl (by decide) rfl (fun ls hl => ?_)
  refine lv_aload_n hx hb dX11_clearText_5 rfl (lv_at hl 1 rfl) ?_
  refine lv_iconst (v := 0) hx hb dX11_clearText_6 (by decide) ?_
  refine rPut (k := 8) C hW hS (by decide) tm_Model rfl inX11 tyX11_ok nmX11 (by decide) fl_X11_182 rfl (by decide +kernel) (Nat.le_of_ble_eq_true rfl) (upd_Model_typed _) dX11_clearText_7 (fun H locs hW hS => ?_)
  have hW : Wd g (up2 M 20 8 (0)) H := hW
  have h := letE h
  generalize up2 M 20 8 (0) = M1 at hW h
  refine lv_iload_n hx hb dX11_clearText_10 rfl (lv_at hl 0 rfl) ?_
  cases h
  exact rI C hr hlk dX11_clearText_11 hW hS ⟨rfl, rfl⟩
def f_X11_isDigit (M : MM) (x : Int32) : Option (Int32 × MM) := (if (M 20 8 : Int32) ≤ (x : Int32) then some (0, M) else (if vin (x) 60 then (bnd2 (f_X11_in M (M 27 (x : Int32).toNatClampNeg) 48 57) fun r3 M4 => (if (r3 : Int32) = 0 then some (0, M4) else some (1, M4))) else none))
set_option maxHeartbeats 4000000 in
set_option maxRecDepth 100000 in
theorem c_X11_isDigit (l : Launch) (g : GD) (M : MM) (x : Int32) (r : Int32) (M2 : MM) (h : f_X11_isDigit M x = some (r, M2)) : Met l yX11_isDigit (wm yX11_isDigit cX11_isDigit 2 (some .boolean)) (RM 1 22) (va_Pc [rf g (1697), .int (x)] (WDp g M)) (QQ g (fun v w0 => v = .int r ∧ M2 = w0 ∧ (r = 0 ∨ r = 1))) 0 0 (AA g) := by
  refine mkM (by decide +kernel) (Nat.le_of_ble_eq_true rfl) ?_
  intro p e s m below meth c C hr hlk hW hS ls hl
  have hl : lv_has ls 2 [(0, rf g (1697)), (1, .int (x))] := hl
  have hx := C.1
  have hb := C.2.1
  have hts := C.2.2.2.2.1
  unfold f_X11_isDigit at h
  refine lv_iload_n hx hb dX11_isDigit_0 rfl (lv_at hl 1 rfl) ?_
  refine lv_aload_n hx hb dX11_isDigit_1 rfl (lv_at hl 0 rfl) ?_
  refine rGet (k := 8) C hW (by decide) tm_Model rfl inX11 (by decide) fl_X11_182 rfl dX11_isDigit_2 ?_
  refine lv_icmp_ge (tgt := 28) hx hb dX11_isDigit_5 (by decide) (fun c1 => ?_) (fun c1 => ?_)
  · rw [if_pos c1] at h
    refine lv_iconst (v := 0) hx hb dX11_isDigit_28 (by decide) ?_
    cases h
    exact rZ C hr hlk dX11_isDigit_29 hW hS (nar01 (Or.inl rfl)) ⟨rfl, rfl, (Or.inl rfl)⟩
  · rw [if_neg c1] at h
    refine lv_aload_n hx hb dX11_isDigit_8 rfl (lv_at hl 0 rfl) ?_
    refine rGet (k := 7) C hW (by decide) tm_Model rfl inX11 (by decide) fl_X11_28 rfl dX11_isDigit_9 ?_
    refine lv_iload_n hx hb dX11_isDigit_12 rfl (lv_at hl 1 rfl) ?_
    have s2 : vin (x) 60 := Classical.byContradiction fun q9 => by rw [if_neg q9] at h; cases h
    rw [if_pos s2] at h
    refine rIld C hW (by decide) tm_mtext s2 dX11_isDigit_13 ?_
    refine lv_bipush (v := 48) hx hb dX11_isDigit_14 (by decide) ?_
    refine lv_bipush (v := 57) hx hb dX11_isDigit_16 (by decide) ?_
    obtain ⟨r3, M4, h5, h⟩ := bind2 h
    refine cBack C.2.2.2.2.2.2.2.2 (runS (As := [.int (M 27 (x : Int32).toNatClampNeg), .int (48), .int (57)]) (rest := []) C hW hS (c_X11_in l g M (M 27 (x : Int32).toNatClampNeg) 48 57 _ _ h5) kS_X11_in ml_X11_68 rfl hl.1 rfl (Nat.le_of_ble_eq_true rfl) ⟨Nat.le_of_ble_eq_true rfl, Nat.le_of_ble_eq_true rfl⟩ ⟨Nat.zero_le _, Nat.zero_le _⟩ dX11_isDigit_18) hS (fun v0 w0 H locs hp hW hS => ?_)
    obtain ⟨rfl, rfl, zr3⟩ := hp
    refine lv_if_eq (tgt := 28) hx hb dX11_isDigit_21 (by decide) (fun c6 => ?_) (fun c6 => ?_)
    · rw [if_pos c6] at h
      refine lv_iconst (v := 0) hx hb dX11_isDigit_28 (by decide) ?_
      cases h
      exact rZ C hr hlk dX11_isDigit_29 hW hS (nar01 (Or.inl rfl)) ⟨rfl, rfl, (Or.inl rfl)⟩
    · rw [if_neg c6] at h
      refine lv_iconst (v := 1) hx hb dX11_isDigit_24 (by decide) ?_
      refine lv_goto (tgt := 29) hx hb dX11_isDigit_25 (by decide) ?_
      cases h
      exact rZ C hr hlk dX11_isDigit_29 hW hS (nar01 (Or.inr rfl)) ⟨rfl, rfl, (Or.inr rfl)⟩
def f_X11_fails (M : MM) (x : Int32) : Option (Int32 × MM) := (letB (up2 M 20 19 (x)) fun M1 => some (0, M1))
set_option maxHeartbeats 4000000 in
set_option maxRecDepth 100000 in
theorem c_X11_fails (l : Launch) (g : GD) (M : MM) (x : Int32) (r : Int32) (M2 : MM) (h : f_X11_fails M x = some (r, M2)) : Met l yX11_fails (wm yX11_fails cX11_fails 2 (some .boolean)) (RM 0 0) (va_Pc [rf g (1697), .int (x)] (WDp g M)) (QQ g (fun v w0 => v = .int r ∧ M2 = w0 ∧ (r = 0 ∨ r = 1))) 0 0 (AA g) := by
  refine mkM (by decide +kernel) (Nat.le_of_ble_eq_true rfl) ?_
  intro p e s m below meth c C hr hlk hW hS ls hl
  have hl : lv_has ls 2 [(0, rf g (1697)), (1, .int (x))] := hl
  have hx := C.1
  have hb := C.2.1
  have hts := C.2.2.2.2.1
  unfold f_X11_fails at h
  refine lv_aload_n hx hb dX11_fails_0 rfl (lv_at hl 0 rfl) ?_
  refine lv_iload_n hx hb dX11_fails_1 rfl (lv_at hl 1 rfl) ?_
  refine rPut (k := 19) C hW hS (by decide) tm_Model rfl inX11 tyX11_ok nmX11 (by decide) fl_X11_185 rfl (by decide +kernel) (Nat.le_of_ble_eq_true rfl) (upd_Model_reason _) dX11_fails_2 (fun H locs hW hS => ?_)
  have hW : Wd g (up2 M 20 19 (x)) H := hW
  have h := letE h
  generalize up2 M 20 19 (x) = M1 at hW h
  refine lv_iconst (v := 0) hx hb dX11_fails_5 (by decide) ?_
  cases h
  exact rZ C hr hlk dX11_fails_6 hW hS (nar01 (Or.inl rfl)) ⟨rfl, rfl, (Or.inl rfl)⟩
def lp_X11_takesBell_76 (fu : Nat) (M : MM)  (x : Int32) (y : Int32) (z : Int32) : Option (Int32 × MM) := match fu with
  | 0 => none
  | n + 1 => (if (M 20 11 : Int32) ≤ (z : Int32) then (if vin (M 20 11) 30 then (letB (up2 M 28 (M 20 11 : Int32).toNatClampNeg (x)) fun M1003 => (if vin (M1003 20 11) 30 then (letB (up2 M1003 29 (M1003 20 11 : Int32).toNatClampNeg (M1003 20 15)) fun M1005 => (letB (up2 M1005 20 11 ((M1005 20 11) + (1))) fun M1006 => (if (y : Int32) = 0 then (letB (up2 M1006 20 18 ((M1006 20 18) + (1))) fun M1008 => (bnd2 (f_X11_atBell M1008 x) fun r1009 M1010 => (bnd2 (f_X11_weight M1010 r1009) fun r1012 M1013 => (letB (up2 M1013 20 20 (r1012)) fun M1015 => some (1, M1015))))) else (letB (up2 M1006 20 18 ((M1006 20 18) + (2))) fun M1016 => (bnd2 (f_X11_atBell M1016 x) fun r1017 M1018 => (bnd2 (f_X11_weight M1018 r1017) fun r1020 M1021 => (letB (up2 M1021 20 20 (r1020)) fun M1023 => some (1, M1023)))))))) else none)) else none) else (if vin (z) 30 then (if (M 28 (z : Int32).toNatClampNeg : Int32) = (x : Int32) then (bnd2 (f_X11_fails M 3) fun r1026 M1027 => some (r1026, M1027)) else (lp_X11_takesBell_76 n M   x y (z + 1))) else none))
def f_X11_takesBell (M : MM)  : Option (Int32 × MM) := (if vin (M 20 18) 60 then (bnd2 (f_X11_isDigit M ((M 20 18) + (1))) fun r2 M3 => (if (r2 : Int32) = 0 then (bnd2 (f_X11_isBell M3 ((M 27 (M 20 18 : Int32).toNatClampNeg) - (48))) fun r6 M7 => (if (r6 : Int32) = 0 then (bnd2 (f_X11_fails M7 2) fun r10 M11 => some (r10, M11)) else (bnd2 (f_X11_isHere M7 ((M 27 (M 20 18 : Int32).toNatClampNeg) - (48))) fun r13 M14 => (if (r13 : Int32) = 0 then (bnd2 (f_X11_fails M14 2) fun r17 M18 => some (r17, M18)) else (lp_X11_takesBell_76 FU M14   ((M 27 (M 20 18 : Int32).toNatClampNeg) - (48)) r2 0))))) else (if vin ((M3 20 18) + (1)) 60 then (letJ ((((10) * ((M 27 (M 20 18 : Int32).toNatClampNeg) - (48))) + (M3 27 ((M3 20 18) + (1) : Int32).toNatClampNeg)) - (48)) fun x21 => (bnd2 (f_X11_isBell M3 x21) fun r22 M23 => (if (r22 : Int32) = 0 then (bnd2 (f_X11_fails M23 2) fun r26 M27 => some (r26, M27)) else (bnd2 (f_X11_isHere M23 x21) fun r29 M30 => (if (r29 : Int32) = 0 then (bnd2 (f_X11_fails M30 2) fun r33 M34 => some (r33, M34)) else (lp_X11_takesBell_76 FU M30   x21 r2 0)))))) else none))) else none)
set_option maxHeartbeats 4000000 in
set_option maxRecDepth 100000 in
theorem t_X11_takesBell_76 (l : Launch) (g : GD) {p : Program} {e : Env} {s : State} {m : MethodId} {av : Array Value} {below : List Frame} {meth : Method} {c : Code}  (n : Nat) : ∀ (M : MM) (x : Int32) (y : Int32) (z : Int32) (r : Int32) (M2 : MM), lp_X11_takesBell_76 n M   x y z = some (r, M2) → CX p s m av c cX11_takesBell 4 RX11 g → meth.sig.returnType = (some .boolean) → meth.locks = false → ∀ (H : Heap) (locs : List Loc), Wd g M H → sS g s H locs → ∀ ls : Array Slot, lv_has ls 4 [(0, rf g (1697)), (1, .int (x)), (2, .int (y)), (3, .int (z))] → W p l e (RM 2 43) s m av below meth c H locs 0 0 (MQ below (QQ g (fun v w0 => v = .int r ∧ M2 = w0 ∧ (r = 0 ∨ r = 1))) av s 0 0 (AA g)) (F0 m 76 ls []) := by
  induction n with
  | zero => intro M x y z r M2 h; cases h
  | succ n ih0 =>
    intro M x y z r M2 h C hr hlk H locs hW hS ls hl
    have ih : ∀ (M : MM) (x : Int32) (y : Int32) (z : Int32), lp_X11_takesBell_76 n M   x y z = some (r, M2) → ∀ (H : Heap) (locs : List Loc), Wd g M H → sS g s H locs → ∀ ls : Array Slot, lv_has ls 4 [(0, rf g (1697)), (1, .int (x)), (2, .int (y)), (3, .int (z))] → W p l e (RM 2 43) s m av below meth c H locs 0 0 (MQ below (QQ g (fun v w0 => v = .int r ∧ M2 = w0 ∧ (r = 0 ∨ r = 1))) av s 0 0 (AA g)) (F0 m 76 ls []) := fun M x y z h H locs hW hS ls hl => ih0 M x y z r M2 h C hr hlk H locs hW hS ls hl
    unfold lp_X11_takesBell_76 at h
    try dsimp only at h
    have hx := C.1
    have hb := C.2.1
    have hts := C.2.2.2.2.1
    refine lv_iload_n hx hb dX11_takesBell_76 rfl (lv_at hl 3 rfl) ?_
    refine lv_aload_n hx hb dX11_takesBell_77 rfl (lv_at hl 0 rfl) ?_
    refine rGet (k := 11) C hW (by decide) tm_Model rfl inX11 (by decide) fl_X11_197 rfl dX11_takesBell_78 ?_
    refine lv_icmp_ge (tgt := 106) hx hb dX11_takesBell_81 (by decide) (fun c1001 => ?_) (fun c1001 => ?_)
    · rw [if_pos c1001] at h
      refine lv_aload_n hx hb dX11_takesBell_106 rfl (lv_at hl 0 rfl) ?_
      refine rGet (k := 9) C hW (by decide) tm_Model rfl inX11 (by decide) fl_X11_31 rfl dX11_takesBell_107 ?_
      refine lv_aload_n hx hb dX11_takesBell_110 rfl (lv_at hl 0 rfl) ?_
      refine rGet (k := 11) C hW (by decide) tm_Model rfl inX11 (by decide) fl_X11_197 rfl dX11_takesBell_111 ?_
      refine lv_iload_n hx hb dX11_takesBell_114 rfl (lv_at hl 1 rfl) ?_
      have s1002 : vin (M 20 11) 30 := Classical.byContradiction fun q9 => by rw [if_neg q9] at h; cases h
      rw [if_pos s1002] at h
      refine rIst (M' := up2 M 28 (M 20 11 : Int32).toNatClampNeg (x)) C hW hS (by decide) tm_mhangs s1002 (UPD_G (by decide) rfl (by rw [tm_mhangs, up2_gr])) dX11_takesBell_115 (fun H locs hW hS => ?_)
      have hW : Wd g (up2 M 28 (M 20 11 : Int32).toNatClampNeg (x)) H := hW
      have h := letE h
      generalize up2 M 28 (M 20 11 : Int32).toNatClampNeg (x) = M1003 at hW h
      refine lv_aload_n hx hb dX11_takesBell_116 rfl (lv_at hl 0 rfl) ?_
      refine rGet (k := 10) C hW (by decide) tm_Model rfl inX11 (by decide) fl_X11_34 rfl dX11_takesBell_117 ?_
      refine lv_aload_n hx hb dX11_takesBell_120 rfl (lv_at hl 0 rfl) ?_
      refine rGet (k := 11) C hW (by decide) tm_Model rfl inX11 (by decide) fl_X11_197 rfl dX11_takesBell_121 ?_
      refine lv_aload_n hx hb dX11_takesBell_124 rfl (lv_at hl 0 rfl) ?_
      refine rGet (k := 15) C hW (by decide) tm_Model rfl inX11 (by decide) fl_X11_200 rfl dX11_takesBell_125 ?_
      have s1004 : vin (M1003 20 11) 30 := Classical.byContradiction fun q9 => by rw [if_neg q9] at h; cases h
      rw [if_pos s1004] at h
      refine rIst (M' := up2 M1003 29 (M1003 20 11 : Int32).toNatClampNeg (M1003 20 15)) C hW hS (by decide) tm_deep s1004 (UPD_G (by decide) rfl (by rw [tm_deep, up2_gr])) dX11_takesBell_128 (fun H locs hW hS => ?_)
      have hW : Wd g (up2 M1003 29 (M1003 20 11 : Int32).toNatClampNeg (M1003 20 15)) H := hW
      have h := letE h
      generalize up2 M1003 29 (M1003 20 11 : Int32).toNatClampNeg (M1003 20 15) = M1005 at hW h
      refine lv_aload_n hx hb dX11_takesBell_129 rfl (lv_at hl 0 rfl) ?_
      refine lv_dup hx hb dX11_takesBell_130 rfl ?_
      refine rGet (k := 11) C hW (by decide) tm_Model rfl inX11 (by decide) fl_X11_197 rfl dX11_takesBell_131 ?_
      refine lv_iconst (v := 1) hx hb dX11_takesBell_134 (by decide) ?_
      refine lv_iadd hx hb dX11_takesBell_135 ?_
      refine rPut (k := 11) C hW hS (by decide) tm_Model rfl inX11 tyX11_ok nmX11 (by decide) fl_X11_197 rfl (by decide +kernel) (Nat.le_of_ble_eq_true rfl) (upd_Model_many _) dX11_takesBell_136 (fun H locs hW hS => ?_)
      have hW : Wd g (up2 M1005 20 11 ((M1005 20 11) + (1))) H := hW
      have h := letE h
      generalize up2 M1005 20 11 ((M1005 20 11) + (1)) = M1006 at hW h
      refine lv_aload_n hx hb dX11_takesBell_139 rfl (lv_at hl 0 rfl) ?_
      refine lv_dup hx hb dX11_takesBell_140 rfl ?_
      refine rGet (k := 18) C hW (by decide) tm_Model rfl inX11 (by decide) fl_X11_188 rfl dX11_takesBell_141 ?_
      refine lv_iload_n hx hb dX11_takesBell_144 rfl (lv_at hl 2 rfl) ?_
      refine lv_if_eq (tgt := 152) hx hb dX11_takesBell_145 (by decide) (fun c1007 => ?_) (fun c1007 => ?_)
      · rw [if_pos c1007] at h
        refine lv_iconst (v := 1) hx hb dX11_takesBell_152 (by decide) ?_
        refine lv_iadd hx hb dX11_takesBell_153 ?_
        refine rPut (k := 18) C hW hS (by decide) tm_Model rfl inX11 tyX11_ok nmX11 (by decide) fl_X11_188 rfl (by decide +kernel) (Nat.le_of_ble_eq_true rfl) (upd_Model_at _) dX11_takesBell_154 (fun H locs hW hS => ?_)
        have hW : Wd g (up2 M1006 20 18 ((M1006 20 18) + (1))) H := hW
        have h := letE h
        generalize up2 M1006 20 18 ((M1006 20 18) + (1)) = M1008 at hW h
        refine lv_aload_n hx hb dX11_takesBell_157 rfl (lv_at hl 0 rfl) ?_
        refine lv_aload_n hx hb dX11_takesBell_158 rfl (lv_at hl 0 rfl) ?_
        refine lv_iload_n hx hb dX11_takesBell_159 rfl (lv_at hl 1 rfl) ?_
        obtain ⟨r1009, M1010, h1011, h⟩ := bind2 h
        refine cBack C.2.2.2.2.2.2.2.2 (runS (As := [.int (x)]) (rest := [rf g (1697), rf g (1697)]) C hW hS (c_X11_atBell l g M1008 x _ _ h1011) kS_X11_atBell ml_X11_129 rfl hl.1 rfl (Nat.le_of_ble_eq_true rfl) ⟨Nat.le_of_ble_eq_true rfl, Nat.le_of_ble_eq_true rfl⟩ ⟨Nat.zero_le _, Nat.zero_le _⟩ dX11_takesBell_160) hS (fun v0 w0 H locs hp hW hS => ?_)
        obtain ⟨rfl, rfl⟩ := hp
        obtain ⟨r1012, M1013, h1014, h⟩ := bind2 h
        refine cBack C.2.2.2.2.2.2.2.2 (runV (As := [.int (r1009)]) (rest := [rf g (1697)]) C hW hS (c_X11_weight l g M1010 r1009 _ _ h1014) kV_X11_weight ml_X11_88 (by decide) tm_Model rfl rfl rfl hl.1 rfl (Nat.le_of_ble_eq_true rfl) ⟨Nat.le_of_ble_eq_true rfl, Nat.le_of_ble_eq_true rfl⟩ ⟨Nat.zero_le _, Nat.zero_le _⟩ dX11_takesBell_163) hS (fun v0 w0 H locs hp hW hS => ?_)
        obtain ⟨rfl, rfl⟩ := hp
        refine rPut (k := 20) C hW hS (by decide) tm_Model rfl inX11 tyX11_ok nmX11 (by decide) fl_X11_203 rfl (by decide +kernel) (Nat.le_of_ble_eq_true rfl) (upd_Model_weighs _) dX11_takesBell_166 (fun H locs hW hS => ?_)
        have hW : Wd g (up2 M1013 20 20 (r1012)) H := hW
        have h := letE h
        generalize up2 M1013 20 20 (r1012) = M1015 at hW h
        refine lv_iconst (v := 1) hx hb dX11_takesBell_169 (by decide) ?_
        cases h
        exact rZ C hr hlk dX11_takesBell_170 hW hS (nar01 (Or.inr rfl)) ⟨rfl, rfl, (Or.inr rfl)⟩
      · rw [if_neg c1007] at h
        refine lv_iconst (v := 2) hx hb dX11_takesBell_148 (by decide) ?_
        refine lv_goto (tgt := 153) hx hb dX11_takesBell_149 (by decide) ?_
        refine lv_iadd hx hb dX11_takesBell_153 ?_
        refine rPut (k := 18) C hW hS (by decide) tm_Model rfl inX11 tyX11_ok nmX11 (by decide) fl_X11_188 rfl (by decide +kernel) (Nat.le_of_ble_eq_true rfl) (upd_Model_at _) dX11_takesBell_154 (fun H locs hW hS => ?_)
        have hW : Wd g (up2 M1006 20 18 ((M1006 20 18) + (2))) H := hW
        have h := letE h
        generalize up2 M1006 20 18 ((M1006 20 18) + (2)) = M1016 at hW h
        refine lv_aload_n hx hb dX11_takesBell_157 rfl (lv_at hl 0 rfl) ?_
        refine lv_aload_n hx hb dX11_takesBell_158 rfl (lv_at hl 0 rfl) ?_
        refine lv_iload_n hx hb dX11_takesBell_159 rfl (lv_at hl 1 rfl) ?_
        obtain ⟨r1017, M1018, h1019, h⟩ := bind2 h
        refine cBack C.2.2.2.2.2.2.2.2 (runS (As := [.int (x)]) (rest := [rf g (1697), rf g (1697)]) C hW hS (c_X11_atBell l g M1016 x _ _ h1019) kS_X11_atBell ml_X11_129 rfl hl.1 rfl (Nat.le_of_ble_eq_true rfl) ⟨Nat.le_of_ble_eq_true rfl, Nat.le_of_ble_eq_true rfl⟩ ⟨Nat.zero_le _, Nat.zero_le _⟩ dX11_takesBell_160) hS (fun v0 w0 H locs hp hW hS => ?_)
        obtain ⟨rfl, rfl⟩ := hp
        obtain ⟨r1020, M1021, h1022, h⟩ := bind2 h
        refine cBack C.2.2.2.2.2.2.2.2 (runV (As := [.int (r1017)]) (rest := [rf g (1697)]) C hW hS (c_X11_weight l g M1018 r1017 _ _ h1022) kV_X11_weight ml_X11_88 (by decide) tm_Model rfl rfl rfl hl.1 rfl (Nat.le_of_ble_eq_true rfl) ⟨Nat.le_of_ble_eq_true rfl, Nat.le_of_ble_eq_true rfl⟩ ⟨Nat.zero_le _, Nat.zero_le _⟩ dX11_takesBell_163) hS (fun v0 w0 H locs hp hW hS => ?_)
        obtain ⟨rfl, rfl⟩ := hp
        refine rPut (k := 20) C hW hS (by decide) tm_Model rfl inX11 tyX11_ok nmX11 (by decide) fl_X11_203 rfl (by decide +kernel) (Nat.le_of_ble_eq_true rfl) (upd_Model_weighs _) dX11_takesBell_166 (fun H locs hW hS => ?_)
        have hW : Wd g (up2 M1021 20 20 (r1020)) H := hW
        have h := letE h
        generalize up2 M1021 20 20 (r1020) = M1023 at hW h
        refine lv_iconst (v := 1) hx hb dX11_takesBell_169 (by decide) ?_
        cases h
        exact rZ C hr hlk dX11_takesBell_170 hW hS (nar01 (Or.inr rfl)) ⟨rfl, rfl, (Or.inr rfl)⟩
    · rw [if_neg c1001] at h
      refine lv_aload_n hx hb dX11_takesBell_84 rfl (lv_at hl 0 rfl) ?_
      refine rGet (k := 9) C hW (by decide) tm_Model rfl inX11 (by decide) fl_X11_31 rfl dX11_takesBell_85 ?_
      refine lv_iload_n hx hb dX11_takesBell_88 rfl (lv_at hl 3 rfl) ?_
      have s1024 : vin (z) 30 := Classical.byContradiction fun q9 => by rw [if_neg q9] at h; cases h
      rw [if_pos s1024] at h
      refine rIld C hW (by decide) tm_mhangs s1024 dX11_takesBell_89 ?_
      refine lv_iload_n hx hb dX11_takesBell_90 rfl (lv_at hl 1 rfl) ?_
      refine lv_icmp_ne (tgt := 100) hx hb dX11_takesBell_91 (by decide) (fun c1025 => ?_) (fun c1025 => ?_)
      · rw [if_neg c1025] at h
        refine lv_iinc (v := z + 1) (lv' := [(3, .int (z + 1)), (0, rf g (1697)), (1, .int (x)), (2, .int (y))]) hx hb dX11_takesBell_100 hl (k := 3) rfl rfl (by decide) rfl (fun ls hl => ?_)
        refine lv_goto (tgt := 76) hx hb dX11_takesBell_103 (by decide) ?_
        exact ih M x y (z + 1) h _ _ hW hS ls (lv_sub hl [1, 2, 3, 0] rfl)
      · rw [if_pos c1025] at h
        refine lv_aload_n hx hb dX11_takesBell_94 rfl (lv_at hl 0 rfl) ?_
        refine lv_iconst (v := 3) hx hb dX11_takesBell_95 (by decide) ?_
        obtain ⟨r1026, M1027, h1028, h⟩ := bind2 h
        refine cBack C.2.2.2.2.2.2.2.2 (runV (As := [.int (3)]) (rest := []) C hW hS (c_X11_fails l g M 3 _ _ h1028) kV_X11_fails ml_X11_194 (by decide) tm_Model rfl rfl rfl hl.1 rfl (Nat.le_of_ble_eq_true rfl) ⟨Nat.le_of_ble_eq_true rfl, Nat.le_of_ble_eq_true rfl⟩ ⟨Nat.zero_le _, Nat.zero_le _⟩ dX11_takesBell_96) hS (fun v0 w0 H locs hp hW hS => ?_)
        obtain ⟨rfl, rfl, zr1026⟩ := hp
        cases h
        exact rZ C hr hlk dX11_takesBell_99 hW hS (nar01 zr1026) ⟨rfl, rfl, zr1026⟩
set_option maxHeartbeats 4000000 in
set_option maxRecDepth 100000 in
theorem c_X11_takesBell (l : Launch) (g : GD) (M : MM)  (r : Int32) (M2 : MM) (h : f_X11_takesBell M  = some (r, M2)) : Met l yX11_takesBell (wm yX11_takesBell cX11_takesBell 4 (some .boolean)) (RM 2 43) (va_Pc [rf g (1697)] (WDp g M)) (QQ g (fun v w0 => v = .int r ∧ M2 = w0 ∧ (r = 0 ∨ r = 1))) 0 0 (AA g) := by
  refine mkM (by decide +kernel) (Nat.le_of_ble_eq_true rfl) ?_
  intro p e s m below meth c C hr hlk hW hS ls hl
  have hl : lv_has ls 4 [(0, rf g (1697))] := hl
  have hx := C.1
  have hb := C.2.1
  have hts := C.2.2.2.2.1
  unfold f_X11_takesBell at h
  refine lv_aload_n hx hb dX11_takesBell_0 rfl (lv_at hl 0 rfl) ?_
  refine rGet (k := 7) C hW (by decide) tm_Model rfl inX11 (by decide) fl_X11_28 rfl dX11_takesBell_1 ?_
  refine lv_aload_n hx hb dX11_takesBell_4 rfl (lv_at hl 0 rfl) ?_
  refine rGet (k := 18) C hW (by decide) tm_Model rfl inX11 (by decide) fl_X11_188 rfl dX11_takesBell_5 ?_
  have s1 : vin (M 20 18) 60 := Classical.byContradiction fun q9 => by rw [if_neg q9] at h; cases h
  rw [if_pos s1] at h
  refine rIld C hW (by decide) tm_mtext s1 dX11_takesBell_8 ?_
  refine lv_bipush (v := 48) hx hb dX11_takesBell_9 (by decide) ?_
  refine lv_isub hx hb dX11_takesBell_11 ?_
  refine lv_istore_n (lv' := [(1, .int ((M 27 (M 20 18 : Int32).toNatClampNeg) - (48))), (0, rf g (1697))]) hx hb dX11_takesBell_12 rfl hl (by decide) rfl (fun ls hl => ?_)
  refine lv_aload_n hx hb dX11_takesBell_13 rfl (lv_at hl 1 rfl) ?_
  refine lv_aload_n hx hb dX11_takesBell_14 rfl (lv_at hl 1 rfl) ?_
  refine rGet (k := 18) C hW (by decide) tm_Model rfl inX11 (by decide) fl_X11_188 rfl dX11_takesBell_15 ?_
  refine lv_iconst (v := 1) hx hb dX11_takesBell_18 (by decide) ?_
  refine lv_iadd hx hb dX11_takesBell_19 ?_
  obtain ⟨r2, M3, h4, h⟩ := bind2 h
  refine cBack C.2.2.2.2.2.2.2.2 (runV (As := [.int ((M 20 18) + (1))]) (rest := []) C hW hS (c_X11_isDigit l g M ((M 20 18) + (1)) _ _ h4) kV_X11_isDigit ml_X11_191 (by decide) tm_Model rfl rfl rfl hl.1 rfl (Nat.le_of_ble_eq_true rfl) ⟨Nat.le_of_ble_eq_true rfl, Nat.le_of_ble_eq_true rfl⟩ ⟨Nat.zero_le _, Nat.zero_le _⟩ dX11_takesBell_20) hS (fun v0 w0 H locs hp hW hS => ?_)
  obtain ⟨rfl, rfl, zr2⟩ := hp
  refine lv_istore_n (lv' := [(2, .int (r2)), (1, .int ((M 27 (M 20 18 : Int32).toNatClampNeg) - (48))), (0, rf g (1697))]) hx hb dX11_takesBell_23 rfl hl (by decide) rfl (fun ls hl => ?_)
  refine lv_iload_n hx hb dX11_takesBell_24 rfl (lv_at hl 0 rfl) ?_
  refine lv_if_eq (tgt := 50) hx hb dX11_takesBell_25 (by decide) (fun c5 => ?_) (fun c5 => ?_)
  · rw [if_pos c5] at h
    refine lv_iload_n hx hb dX11_takesBell_50 rfl (lv_at hl 1 rfl) ?_
    refine lv_istore_n (lv' := [(1, .int ((M 27 (M 20 18 : Int32).toNatClampNeg) - (48))), (2, .int (r2)), (0, rf g (1697))]) hx hb dX11_takesBell_51 rfl hl (by decide) rfl (fun ls hl => ?_)
    refine lv_aload_n hx hb dX11_takesBell_52 rfl (lv_at hl 2 rfl) ?_
    refine lv_iload_n hx hb dX11_takesBell_53 rfl (lv_at hl 0 rfl) ?_
    obtain ⟨r6, M7, h8, h⟩ := bind2 h
    refine cBack C.2.2.2.2.2.2.2.2 (runV (As := [.int ((M 27 (M 20 18 : Int32).toNatClampNeg) - (48))]) (rest := []) C hW hS (c_X11_isBell l g M3 ((M 27 (M 20 18 : Int32).toNatClampNeg) - (48)) _ _ h8) kV_X11_isBell ml_X11_138 (by decide) tm_Model rfl rfl rfl hl.1 rfl (Nat.le_of_ble_eq_true rfl) ⟨Nat.le_of_ble_eq_true rfl, Nat.le_of_ble_eq_true rfl⟩ ⟨Nat.zero_le _, Nat.zero_le _⟩ dX11_takesBell_54) hS (fun v0 w0 H locs hp hW hS => ?_)
    obtain ⟨rfl, rfl, zr6⟩ := hp
    refine lv_if_eq (tgt := 68) hx hb dX11_takesBell_57 (by decide) (fun c9 => ?_) (fun c9 => ?_)
    · rw [if_pos c9] at h
      refine lv_aload_n hx hb dX11_takesBell_68 rfl (lv_at hl 2 rfl) ?_
      refine lv_iconst (v := 2) hx hb dX11_takesBell_69 (by decide) ?_
      obtain ⟨r10, M11, h12, h⟩ := bind2 h
      refine cBack C.2.2.2.2.2.2.2.2 (runV (As := [.int (2)]) (rest := []) C hW hS (c_X11_fails l g M7 2 _ _ h12) kV_X11_fails ml_X11_194 (by decide) tm_Model rfl rfl rfl hl.1 rfl (Nat.le_of_ble_eq_true rfl) ⟨Nat.le_of_ble_eq_true rfl, Nat.le_of_ble_eq_true rfl⟩ ⟨Nat.zero_le _, Nat.zero_le _⟩ dX11_takesBell_70) hS (fun v0 w0 H locs hp hW hS => ?_)
      obtain ⟨rfl, rfl, zr10⟩ := hp
      cases h
      exact rZ C hr hlk dX11_takesBell_73 hW hS (nar01 zr10) ⟨rfl, rfl, zr10⟩
    · rw [if_neg c9] at h
      refine lv_aload_n hx hb dX11_takesBell_60 rfl (lv_at hl 2 rfl) ?_
      refine lv_iload_n hx hb dX11_takesBell_61 rfl (lv_at hl 0 rfl) ?_
      obtain ⟨r13, M14, h15, h⟩ := bind2 h
      refine cBack C.2.2.2.2.2.2.2.2 (runV (As := [.int ((M 27 (M 20 18 : Int32).toNatClampNeg) - (48))]) (rest := []) C hW hS (c_X11_isHere l g M7 ((M 27 (M 20 18 : Int32).toNatClampNeg) - (48)) _ _ h15) kV_X11_isHere ml_X11_107 (by decide) tm_Model rfl rfl rfl hl.1 rfl (Nat.le_of_ble_eq_true rfl) ⟨Nat.le_of_ble_eq_true rfl, Nat.le_of_ble_eq_true rfl⟩ ⟨Nat.zero_le _, Nat.zero_le _⟩ dX11_takesBell_62) hS (fun v0 w0 H locs hp hW hS => ?_)
      obtain ⟨rfl, rfl, zr13⟩ := hp
      refine lv_if_ne (tgt := 74) hx hb dX11_takesBell_65 (by decide) (fun c16 => ?_) (fun c16 => ?_)
      · rw [if_neg c16] at h
        refine lv_iconst (v := 0) hx hb dX11_takesBell_74 (by decide) ?_
        refine lv_istore_n (lv' := [(3, .int (0)), (1, .int ((M 27 (M 20 18 : Int32).toNatClampNeg) - (48))), (2, .int (r2)), (0, rf g (1697))]) hx hb dX11_takesBell_75 rfl hl (by decide) rfl (fun ls hl => ?_)
        exact t_X11_takesBell_76 l g    FU M14 ((M 27 (M 20 18 : Int32).toNatClampNeg) - (48)) r2 0 _ _ h C hr hlk _ _ hW hS ls (lv_sub hl [3, 1, 2, 0] rfl)
      · rw [if_pos c16] at h
        refine lv_aload_n hx hb dX11_takesBell_68 rfl (lv_at hl 2 rfl) ?_
        refine lv_iconst (v := 2) hx hb dX11_takesBell_69 (by decide) ?_
        obtain ⟨r17, M18, h19, h⟩ := bind2 h
        refine cBack C.2.2.2.2.2.2.2.2 (runV (As := [.int (2)]) (rest := []) C hW hS (c_X11_fails l g M14 2 _ _ h19) kV_X11_fails ml_X11_194 (by decide) tm_Model rfl rfl rfl hl.1 rfl (Nat.le_of_ble_eq_true rfl) ⟨Nat.le_of_ble_eq_true rfl, Nat.le_of_ble_eq_true rfl⟩ ⟨Nat.zero_le _, Nat.zero_le _⟩ dX11_takesBell_70) hS (fun v0 w0 H locs hp hW hS => ?_)
        obtain ⟨rfl, rfl, zr17⟩ := hp
        cases h
        exact rZ C hr hlk dX11_takesBell_73 hW hS (nar01 zr17) ⟨rfl, rfl, zr17⟩
  · rw [if_neg c5] at h
    refine lv_bipush (v := 10) hx hb dX11_takesBell_28 (by decide) ?_
    refine lv_iload_n hx hb dX11_takesBell_30 rfl (lv_at hl 1 rfl) ?_
    refine lv_imul hx hb dX11_takesBell_31 ?_
    refine lv_aload_n hx hb dX11_takesBell_32 rfl (lv_at hl 2 rfl) ?_
    refine rGet (k := 7) C hW (by decide) tm_Model rfl inX11 (by decide) fl_X11_28 rfl dX11_takesBell_33 ?_
    refine lv_aload_n hx hb dX11_takesBell_36 rfl (lv_at hl 2 rfl) ?_
    refine rGet (k := 18) C hW (by decide) tm_Model rfl inX11 (by decide) fl_X11_188 rfl dX11_takesBell_37 ?_
    refine lv_iconst (v := 1) hx hb dX11_takesBell_40 (by decide) ?_
    refine lv_iadd hx hb dX11_takesBell_41 ?_
    have s20 : vin ((M3 20 18) + (1)) 60 := Classical.byContradiction fun q9 => by rw [if_neg q9] at h; cases h
    rw [if_pos s20] at h
    refine rIld C hW (by decide) tm_mtext s20 dX11_takesBell_42 ?_
    refine lv_iadd hx hb dX11_takesBell_43 ?_
    refine lv_bipush (v := 48) hx hb dX11_takesBell_44 (by decide) ?_
    refine lv_isub hx hb dX11_takesBell_46 ?_
    refine lv_goto (tgt := 51) hx hb dX11_takesBell_47 (by decide) ?_
    refine lv_topi (fun x21 ex21 => ?_)
    have ex21 : x21 = (((10) * ((M 27 (M 20 18 : Int32).toNatClampNeg) - (48))) + (M3 27 ((M3 20 18) + (1) : Int32).toNatClampNeg)) - (48) := ex21
    have h := letEJ h
    try rw [← ex21] at h
    refine lv_istore_n (lv' := [(1, .int (x21)), (2, .int (r2)), (0, rf g (1697))]) hx hb dX11_takesBell_51 rfl hl (by decide) rfl (fun ls hl => ?_)
    refine lv_aload_n hx hb dX11_takesBell_52 rfl (lv_at hl 2 rfl) ?_
    refine lv_iload_n hx hb dX11_takesBell_53 rfl (lv_at hl 0 rfl) ?_
    obtain ⟨r22, M23, h24, h⟩ := bind2 h
    refine cBack C.2.2.2.2.2.2.2.2 (runV (As := [.int (x21)]) (rest := []) C hW hS (c_X11_isBell l g M3 x21 _ _ h24) kV_X11_isBell ml_X11_138 (by decide) tm_Model rfl rfl rfl hl.1 rfl (Nat.le_of_ble_eq_true rfl) ⟨Nat.le_of_ble_eq_true rfl, Nat.le_of_ble_eq_true rfl⟩ ⟨Nat.zero_le _, Nat.zero_le _⟩ dX11_takesBell_54) hS (fun v0 w0 H locs hp hW hS => ?_)
    obtain ⟨rfl, rfl, zr22⟩ := hp
    refine lv_if_eq (tgt := 68) hx hb dX11_takesBell_57 (by decide) (fun c25 => ?_) (fun c25 => ?_)
    · rw [if_pos c25] at h
      refine lv_aload_n hx hb dX11_takesBell_68 rfl (lv_at hl 2 rfl) ?_
      refine lv_iconst (v := 2) hx hb dX11_takesBell_69 (by decide) ?_
      obtain ⟨r26, M27, h28, h⟩ := bind2 h
      refine cBack C.2.2.2.2.2.2.2.2 (runV (As := [.int (2)]) (rest := []) C hW hS (c_X11_fails l g M23 2 _ _ h28) kV_X11_fails ml_X11_194 (by decide) tm_Model rfl rfl rfl hl.1 rfl (Nat.le_of_ble_eq_true rfl) ⟨Nat.le_of_ble_eq_true rfl, Nat.le_of_ble_eq_true rfl⟩ ⟨Nat.zero_le _, Nat.zero_le _⟩ dX11_takesBell_70) hS (fun v0 w0 H locs hp hW hS => ?_)
      obtain ⟨rfl, rfl, zr26⟩ := hp
      cases h
      exact rZ C hr hlk dX11_takesBell_73 hW hS (nar01 zr26) ⟨rfl, rfl, zr26⟩
    · rw [if_neg c25] at h
      refine lv_aload_n hx hb dX11_takesBell_60 rfl (lv_at hl 2 rfl) ?_
      refine lv_iload_n hx hb dX11_takesBell_61 rfl (lv_at hl 0 rfl) ?_
      obtain ⟨r29, M30, h31, h⟩ := bind2 h
      refine cBack C.2.2.2.2.2.2.2.2 (runV (As := [.int (x21)]) (rest := []) C hW hS (c_X11_isHere l g M23 x21 _ _ h31) kV_X11_isHere ml_X11_107 (by decide) tm_Model rfl rfl rfl hl.1 rfl (Nat.le_of_ble_eq_true rfl) ⟨Nat.le_of_ble_eq_true rfl, Nat.le_of_ble_eq_true rfl⟩ ⟨Nat.zero_le _, Nat.zero_le _⟩ dX11_takesBell_62) hS (fun v0 w0 H locs hp hW hS => ?_)
      obtain ⟨rfl, rfl, zr29⟩ := hp
      refine lv_if_ne (tgt := 74) hx hb dX11_takesBell_65 (by decide) (fun c32 => ?_) (fun c32 => ?_)
      · rw [if_neg c32] at h
        refine lv_iconst (v := 0) hx hb dX11_takesBell_74 (by decide) ?_
        refine lv_istore_n (lv' := [(3, .int (0)), (1, .int (x21)), (2, .int (r2)), (0, rf g (1697))]) hx hb dX11_takesBell_75 rfl hl (by decide) rfl (fun ls hl => ?_)
        exact t_X11_takesBell_76 l g    FU M30 x21 r2 0 _ _ h C hr hlk _ _ hW hS ls (lv_sub hl [3, 1, 2, 0] rfl)
      · rw [if_pos c32] at h
        refine lv_aload_n hx hb dX11_takesBell_68 rfl (lv_at hl 2 rfl) ?_
        refine lv_iconst (v := 2) hx hb dX11_takesBell_69 (by decide) ?_
        obtain ⟨r33, M34, h35, h⟩ := bind2 h
        refine cBack C.2.2.2.2.2.2.2.2 (runV (As := [.int (2)]) (rest := []) C hW hS (c_X11_fails l g M30 2 _ _ h35) kV_X11_fails ml_X11_194 (by decide) tm_Model rfl rfl rfl hl.1 rfl (Nat.le_of_ble_eq_true rfl) ⟨Nat.le_of_ble_eq_true rfl, Nat.le_of_ble_eq_true rfl⟩ ⟨Nat.zero_le _, Nat.zero_le _⟩ dX11_takesBell_70) hS (fun v0 w0 H locs hp hW hS => ?_)
        obtain ⟨rfl, rfl, zr33⟩ := hp
        cases h
        exact rZ C hr hlk dX11_takesBell_73 hW hS (nar01 zr33) ⟨rfl, rfl, zr33⟩
def lp_X11_takesRest_0 (fu : Nat) (M : MM)   : Option (Int32 × MM) := match fu with
  | 0 => none
  | n + 1 => (if (M 20 15 : Int32) ≤ 0 then (if (M 20 18 : Int32) = (M 20 8 : Int32) then some (1, M) else (bnd2 (f_X11_fails M 1) fun r1003 M1004 => (if (r1003 : Int32) = 0 then some (0, M1004) else some (1, M1004)))) else (if (M 20 8 : Int32) ≤ (M 20 18 : Int32) then (if vin (M 20 15) 6 then (if (M 31 (M 20 15 : Int32).toNatClampNeg : Int32) = 0 then (if (-1 : Int32) = (44 : Int32) then none else (if 0 ≤ (-1 : Int32) then none else (bnd2 (f_X11_fails M 4) fun r1017 M1018 => some (r1017, M1018)))) else (if (-1 : Int32) = (41 : Int32) then none else (if 0 ≤ (-1 : Int32) then none else (bnd2 (f_X11_fails M 4) fun r1012 M1013 => some (r1012, M1013))))) else none) else (if vin (M 20 18) 60 then (if vin (M 20 15) 6 then (if (M 31 (M 20 15 : Int32).toNatClampNeg : Int32) = 0 then (if (M 27 (M 20 18 : Int32).toNatClampNeg : Int32) = (44 : Int32) then (letB (up2 M 20 18 ((M 20 18) + (1))) fun M1059 => (if vin (M1059 20 15) 6 then (if (M1059 31 (M1059 20 15 : Int32).toNatClampNeg : Int32) = 0 then (if vin (M1059 20 15) 6 then (letB (up2 M1059 31 (M1059 20 15 : Int32).toNatClampNeg (1)) fun M1083 => (if vin (M1083 20 15) 6 then (letB (up2 M1083 30 (M1083 20 15 : Int32).toNatClampNeg (M1083 20 20)) fun M1085 => some (1, M1085)) else none)) else none) else (if vin (M1059 20 15) 6 then (if 0 ≤ ((M1059 20 20) - (M1059 30 (M1059 20 15 : Int32).toNatClampNeg) : Int32) then (if ((M1059 20 20) - (M1059 30 (M1059 20 15 : Int32).toNatClampNeg) : Int32) ≤ (M1059 20 14 : Int32) then (letB (up2 M1059 20 14 (M1059 20 14)) fun M1065 => (if vin (M1065 20 15) 6 then (letB (up2 M1065 20 20 ((M1065 20 20) + (M1065 30 (M1065 20 15 : Int32).toNatClampNeg))) fun M1067 => (letB (up2 M1067 20 15 ((M1067 20 15) - (1))) fun M1068 => (lp_X11_takesRest_0 n M1068   ))) else none)) else (letB (up2 M1059 20 14 ((M1059 20 20) - (M1059 30 (M1059 20 15 : Int32).toNatClampNeg))) fun M1069 => (if vin (M1069 20 15) 6 then (letB (up2 M1069 20 20 ((M1069 20 20) + (M1069 30 (M1069 20 15 : Int32).toNatClampNeg))) fun M1071 => (letB (up2 M1071 20 15 ((M1071 20 15) - (1))) fun M1072 => (lp_X11_takesRest_0 n M1072   ))) else none))) else (if (-((M1059 20 20) - (M1059 30 (M1059 20 15 : Int32).toNatClampNeg)) : Int32) ≤ (M1059 20 14 : Int32) then (letB (up2 M1059 20 14 (M1059 20 14)) fun M1074 => (if vin (M1074 20 15) 6 then (letB (up2 M1074 20 20 ((M1074 20 20) + (M1074 30 (M1074 20 15 : Int32).toNatClampNeg))) fun M1076 => (letB (up2 M1076 20 15 ((M1076 20 15) - (1))) fun M1077 => (lp_X11_takesRest_0 n M1077   ))) else none)) else (letB (up2 M1059 20 14 (-((M1059 20 20) - (M1059 30 (M1059 20 15 : Int32).toNatClampNeg)))) fun M1078 => (if vin (M1078 20 15) 6 then (letB (up2 M1078 20 20 ((M1078 20 20) + (M1078 30 (M1078 20 15 : Int32).toNatClampNeg))) fun M1080 => (letB (up2 M1080 20 15 ((M1080 20 15) - (1))) fun M1081 => (lp_X11_takesRest_0 n M1081   ))) else none)))) else none)) else none)) else (if 0 ≤ (M 27 (M 20 18 : Int32).toNatClampNeg : Int32) then (bnd2 (f_X11_fails M 1) fun r1087 M1088 => some (r1087, M1088)) else (bnd2 (f_X11_fails M 4) fun r1090 M1091 => some (r1090, M1091)))) else (if (M 27 (M 20 18 : Int32).toNatClampNeg : Int32) = (41 : Int32) then (letB (up2 M 20 18 ((M 20 18) + (1))) fun M1024 => (if vin (M1024 20 15) 6 then (if (M1024 31 (M1024 20 15 : Int32).toNatClampNeg : Int32) = 0 then (if vin (M1024 20 15) 6 then (letB (up2 M1024 31 (M1024 20 15 : Int32).toNatClampNeg (1)) fun M1048 => (if vin (M1048 20 15) 6 then (letB (up2 M1048 30 (M1048 20 15 : Int32).toNatClampNeg (M1048 20 20)) fun M1050 => some (1, M1050)) else none)) else none) else (if vin (M1024 20 15) 6 then (if 0 ≤ ((M1024 20 20) - (M1024 30 (M1024 20 15 : Int32).toNatClampNeg) : Int32) then (if ((M1024 20 20) - (M1024 30 (M1024 20 15 : Int32).toNatClampNeg) : Int32) ≤ (M1024 20 14 : Int32) then (letB (up2 M1024 20 14 (M1024 20 14)) fun M1030 => (if vin (M1030 20 15) 6 then (letB (up2 M1030 20 20 ((M1030 20 20) + (M1030 30 (M1030 20 15 : Int32).toNatClampNeg))) fun M1032 => (letB (up2 M1032 20 15 ((M1032 20 15) - (1))) fun M1033 => (lp_X11_takesRest_0 n M1033   ))) else none)) else (letB (up2 M1024 20 14 ((M1024 20 20) - (M1024 30 (M1024 20 15 : Int32).toNatClampNeg))) fun M1034 => (if vin (M1034 20 15) 6 then (letB (up2 M1034 20 20 ((M1034 20 20) + (M1034 30 (M1034 20 15 : Int32).toNatClampNeg))) fun M1036 => (letB (up2 M1036 20 15 ((M1036 20 15) - (1))) fun M1037 => (lp_X11_takesRest_0 n M1037   ))) else none))) else (if (-((M1024 20 20) - (M1024 30 (M1024 20 15 : Int32).toNatClampNeg)) : Int32) ≤ (M1024 20 14 : Int32) then (letB (up2 M1024 20 14 (M1024 20 14)) fun M1039 => (if vin (M1039 20 15) 6 then (letB (up2 M1039 20 20 ((M1039 20 20) + (M1039 30 (M1039 20 15 : Int32).toNatClampNeg))) fun M1041 => (letB (up2 M1041 20 15 ((M1041 20 15) - (1))) fun M1042 => (lp_X11_takesRest_0 n M1042   ))) else none)) else (letB (up2 M1024 20 14 (-((M1024 20 20) - (M1024 30 (M1024 20 15 : Int32).toNatClampNeg)))) fun M1043 => (if vin (M1043 20 15) 6 then (letB (up2 M1043 20 20 ((M1043 20 20) + (M1043 30 (M1043 20 15 : Int32).toNatClampNeg))) fun M1045 => (letB (up2 M1045 20 15 ((M1045 20 15) - (1))) fun M1046 => (lp_X11_takesRest_0 n M1046   ))) else none)))) else none)) else none)) else (if 0 ≤ (M 27 (M 20 18 : Int32).toNatClampNeg : Int32) then (bnd2 (f_X11_fails M 1) fun r1052 M1053 => some (r1052, M1053)) else (bnd2 (f_X11_fails M 4) fun r1055 M1056 => some (r1055, M1056))))) else none) else none)))
def f_X11_takesRest (M : MM)  : Option (Int32 × MM) := (lp_X11_takesRest_0 FU M   )
set_option maxHeartbeats 4000000 in
set_option maxRecDepth 100000 in
theorem t_X11_takesRest_0 (l : Launch) (g : GD) {p : Program} {e : Env} {s : State} {m : MethodId} {av : Array Value} {below : List Frame} {meth : Method} {c : Code}  (n : Nat) : ∀ (M : MM)  (r : Int32) (M2 : MM), lp_X11_takesRest_0 n M    = some (r, M2) → CX p s m av c cX11_takesRest 3 RX11 g → meth.sig.returnType = (some .boolean) → meth.locks = false → ∀ (H : Heap) (locs : List Loc), Wd g M H → sS g s H locs → ∀ ls : Array Slot, lv_has ls 3 [(0, rf g (1697))] → W p l e (RM 1 21) s m av below meth c H locs 0 0 (MQ below (QQ g (fun v w0 => v = .int r ∧ M2 = w0 ∧ (r = 0 ∨ r = 1))) av s 0 0 (AA g)) (F0 m 0 ls []) := by
  induction n with
  | zero => intro M  r M2 h; cases h
  | succ n ih0 =>
    intro M  r M2 h C hr hlk H locs hW hS ls hl
    have ih : ∀ (M : MM) , lp_X11_takesRest_0 n M    = some (r, M2) → ∀ (H : Heap) (locs : List Loc), Wd g M H → sS g s H locs → ∀ ls : Array Slot, lv_has ls 3 [(0, rf g (1697))] → W p l e (RM 1 21) s m av below meth c H locs 0 0 (MQ below (QQ g (fun v w0 => v = .int r ∧ M2 = w0 ∧ (r = 0 ∨ r = 1))) av s 0 0 (AA g)) (F0 m 0 ls []) := fun M  h H locs hW hS ls hl => ih0 M  r M2 h C hr hlk H locs hW hS ls hl
    unfold lp_X11_takesRest_0 at h
    try dsimp only at h
    have hx := C.1
    have hb := C.2.1
    have hts := C.2.2.2.2.1
    refine lv_aload_n hx hb dX11_takesRest_0 rfl (lv_at hl 0 rfl) ?_
    refine rGet (k := 15) C hW (by decide) tm_Model rfl inX11 (by decide) fl_X11_200 rfl dX11_takesRest_1 ?_
    refine lv_if_le (tgt := 193) hx hb dX11_takesRest_4 (by decide) (fun c1001 => ?_) (fun c1001 => ?_)
    · rw [if_pos c1001] at h
      refine lv_aload_n hx hb dX11_takesRest_193 rfl (lv_at hl 0 rfl) ?_
      refine rGet (k := 18) C hW (by decide) tm_Model rfl inX11 (by decide) fl_X11_188 rfl dX11_takesRest_194 ?_
      refine lv_aload_n hx hb dX11_takesRest_197 rfl (lv_at hl 0 rfl) ?_
      refine rGet (k := 8) C hW (by decide) tm_Model rfl inX11 (by decide) fl_X11_182 rfl dX11_takesRest_198 ?_
      refine lv_icmp_eq (tgt := 212) hx hb dX11_takesRest_201 (by decide) (fun c1002 => ?_) (fun c1002 => ?_)
      · rw [if_pos c1002] at h
        refine lv_iconst (v := 1) hx hb dX11_takesRest_212 (by decide) ?_
        refine lv_goto (tgt := 217) hx hb dX11_takesRest_213 (by decide) ?_
        cases h
        exact rZ C hr hlk dX11_takesRest_217 hW hS (nar01 (Or.inr rfl)) ⟨rfl, rfl, (Or.inr rfl)⟩
      · rw [if_neg c1002] at h
        refine lv_aload_n hx hb dX11_takesRest_204 rfl (lv_at hl 0 rfl) ?_
        refine lv_iconst (v := 1) hx hb dX11_takesRest_205 (by decide) ?_
        obtain ⟨r1003, M1004, h1005, h⟩ := bind2 h
        refine cBack C.2.2.2.2.2.2.2.2 (runV (As := [.int (1)]) (rest := []) C hW hS (c_X11_fails l g M 1 _ _ h1005) kV_X11_fails ml_X11_194 (by decide) tm_Model rfl rfl rfl hl.1 rfl (Nat.le_of_ble_eq_true rfl) ⟨Nat.le_of_ble_eq_true rfl, Nat.le_of_ble_eq_true rfl⟩ ⟨Nat.zero_le _, Nat.zero_le _⟩ dX11_takesRest_206) hS (fun v0 w0 H locs hp hW hS => ?_)
        obtain ⟨rfl, rfl, zr1003⟩ := hp
        refine lv_if_eq (tgt := 216) hx hb dX11_takesRest_209 (by decide) (fun c1006 => ?_) (fun c1006 => ?_)
        · rw [if_pos c1006] at h
          refine lv_iconst (v := 0) hx hb dX11_takesRest_216 (by decide) ?_
          cases h
          exact rZ C hr hlk dX11_takesRest_217 hW hS (nar01 (Or.inl rfl)) ⟨rfl, rfl, (Or.inl rfl)⟩
        · rw [if_neg c1006] at h
          refine lv_iconst (v := 1) hx hb dX11_takesRest_212 (by decide) ?_
          refine lv_goto (tgt := 217) hx hb dX11_takesRest_213 (by decide) ?_
          cases h
          exact rZ C hr hlk dX11_takesRest_217 hW hS (nar01 (Or.inr rfl)) ⟨rfl, rfl, (Or.inr rfl)⟩
    · rw [if_neg c1001] at h
      refine lv_aload_n hx hb dX11_takesRest_7 rfl (lv_at hl 0 rfl) ?_
      refine rGet (k := 18) C hW (by decide) tm_Model rfl inX11 (by decide) fl_X11_188 rfl dX11_takesRest_8 ?_
      refine lv_aload_n hx hb dX11_takesRest_11 rfl (lv_at hl 0 rfl) ?_
      refine rGet (k := 8) C hW (by decide) tm_Model rfl inX11 (by decide) fl_X11_182 rfl dX11_takesRest_12 ?_
      refine lv_icmp_ge (tgt := 30) hx hb dX11_takesRest_15 (by decide) (fun c1007 => ?_) (fun c1007 => ?_)
      · rw [if_pos c1007] at h
        refine lv_iconst (v := -1) hx hb dX11_takesRest_30 (by decide) ?_
        refine lv_istore_n (lv' := [(1, .int (-1)), (0, rf g (1697))]) hx hb dX11_takesRest_31 rfl hl (by decide) rfl (fun ls hl => ?_)
        refine lv_iload_n hx hb dX11_takesRest_32 rfl (lv_at hl 0 rfl) ?_
        refine lv_aload_n hx hb dX11_takesRest_33 rfl (lv_at hl 1 rfl) ?_
        refine rGet (k := 17) C hW (by decide) tm_Model rfl inX11 (by decide) fl_X11_40 rfl dX11_takesRest_34 ?_
        refine lv_aload_n hx hb dX11_takesRest_37 rfl (lv_at hl 1 rfl) ?_
        refine rGet (k := 15) C hW (by decide) tm_Model rfl inX11 (by decide) fl_X11_200 rfl dX11_takesRest_38 ?_
        have s1008 : vin (M 20 15) 6 := Classical.byContradiction fun q9 => by rw [if_neg q9] at h; cases h
        rw [if_pos s1008] at h
        refine rIld C hW (by decide) tm_framesOf s1008 dX11_takesRest_41 ?_
        refine lv_if_ne (tgt := 50) hx hb dX11_takesRest_42 (by decide) (fun c1009 => ?_) (fun c1009 => ?_)
        · rw [if_neg c1009] at h
          refine lv_bipush (v := 41) hx hb dX11_takesRest_50 (by decide) ?_
          refine lv_icmp_eq (tgt := 69) hx hb dX11_takesRest_52 (by decide) (fun c1010 => ?_) (fun c1010 => ?_)
          · rw [if_pos c1010] at h
            cases h
          · rw [if_neg c1010] at h
            refine lv_aload_n hx hb dX11_takesRest_55 rfl (lv_at hl 1 rfl) ?_
            refine lv_iload_n hx hb dX11_takesRest_56 rfl (lv_at hl 0 rfl) ?_
            refine lv_if_ge (tgt := 64) hx hb dX11_takesRest_57 (by decide) (fun c1011 => ?_) (fun c1011 => ?_)
            · rw [if_pos c1011] at h
              cases h
            · rw [if_neg c1011] at h
              refine lv_iconst (v := 4) hx hb dX11_takesRest_60 (by decide) ?_
              refine lv_goto (tgt := 65) hx hb dX11_takesRest_61 (by decide) ?_
              obtain ⟨r1012, M1013, h1014, h⟩ := bind2 h
              refine cBack C.2.2.2.2.2.2.2.2 (runV (As := [.int (4)]) (rest := []) C hW hS (c_X11_fails l g M 4 _ _ h1014) kV_X11_fails ml_X11_194 (by decide) tm_Model rfl rfl rfl hl.1 rfl (Nat.le_of_ble_eq_true rfl) ⟨Nat.le_of_ble_eq_true rfl, Nat.le_of_ble_eq_true rfl⟩ ⟨Nat.zero_le _, Nat.zero_le _⟩ dX11_takesRest_65) hS (fun v0 w0 H locs hp hW hS => ?_)
              obtain ⟨rfl, rfl, zr1012⟩ := hp
              cases h
              exact rZ C hr hlk dX11_takesRest_68 hW hS (nar01 zr1012) ⟨rfl, rfl, zr1012⟩
        · rw [if_pos c1009] at h
          refine lv_bipush (v := 44) hx hb dX11_takesRest_45 (by decide) ?_
          refine lv_goto (tgt := 52) hx hb dX11_takesRest_47 (by decide) ?_
          refine lv_icmp_eq (tgt := 69) hx hb dX11_takesRest_52 (by decide) (fun c1015 => ?_) (fun c1015 => ?_)
          · rw [if_pos c1015] at h
            cases h
          · rw [if_neg c1015] at h
            refine lv_aload_n hx hb dX11_takesRest_55 rfl (lv_at hl 1 rfl) ?_
            refine lv_iload_n hx hb dX11_takesRest_56 rfl (lv_at hl 0 rfl) ?_
            refine lv_if_ge (tgt := 64) hx hb dX11_takesRest_57 (by decide) (fun c1016 => ?_) (fun c1016 => ?_)
            · rw [if_pos c1016] at h
              cases h
            · rw [if_neg c1016] at h
              refine lv_iconst (v := 4) hx hb dX11_takesRest_60 (by decide) ?_
              refine lv_goto (tgt := 65) hx hb dX11_takesRest_61 (by decide) ?_
              obtain ⟨r1017, M1018, h1019, h⟩ := bind2 h
              refine cBack C.2.2.2.2.2.2.2.2 (runV (As := [.int (4)]) (rest := []) C hW hS (c_X11_fails l g M 4 _ _ h1019) kV_X11_fails ml_X11_194 (by decide) tm_Model rfl rfl rfl hl.1 rfl (Nat.le_of_ble_eq_true rfl) ⟨Nat.le_of_ble_eq_true rfl, Nat.le_of_ble_eq_true rfl⟩ ⟨Nat.zero_le _, Nat.zero_le _⟩ dX11_takesRest_65) hS (fun v0 w0 H locs hp hW hS => ?_)
              obtain ⟨rfl, rfl, zr1017⟩ := hp
              cases h
              exact rZ C hr hlk dX11_takesRest_68 hW hS (nar01 zr1017) ⟨rfl, rfl, zr1017⟩
      · rw [if_neg c1007] at h
        refine lv_aload_n hx hb dX11_takesRest_18 rfl (lv_at hl 0 rfl) ?_
        refine rGet (k := 7) C hW (by decide) tm_Model rfl inX11 (by decide) fl_X11_28 rfl dX11_takesRest_19 ?_
        refine lv_aload_n hx hb dX11_takesRest_22 rfl (lv_at hl 0 rfl) ?_
        refine rGet (k := 18) C hW (by decide) tm_Model rfl inX11 (by decide) fl_X11_188 rfl dX11_takesRest_23 ?_
        have s1020 : vin (M 20 18) 60 := Classical.byContradiction fun q9 => by rw [if_neg q9] at h; cases h
        rw [if_pos s1020] at h
        refine rIld C hW (by decide) tm_mtext s1020 dX11_takesRest_26 ?_
        refine lv_goto (tgt := 31) hx hb dX11_takesRest_27 (by decide) ?_
        refine lv_istore_n (lv' := [(1, .int (M 27 (M 20 18 : Int32).toNatClampNeg)), (0, rf g (1697))]) hx hb dX11_takesRest_31 rfl hl (by decide) rfl (fun ls hl => ?_)
        refine lv_iload_n hx hb dX11_takesRest_32 rfl (lv_at hl 0 rfl) ?_
        refine lv_aload_n hx hb dX11_takesRest_33 rfl (lv_at hl 1 rfl) ?_
        refine rGet (k := 17) C hW (by decide) tm_Model rfl inX11 (by decide) fl_X11_40 rfl dX11_takesRest_34 ?_
        refine lv_aload_n hx hb dX11_takesRest_37 rfl (lv_at hl 1 rfl) ?_
        refine rGet (k := 15) C hW (by decide) tm_Model rfl inX11 (by decide) fl_X11_200 rfl dX11_takesRest_38 ?_
        have s1021 : vin (M 20 15) 6 := Classical.byContradiction fun q9 => by rw [if_neg q9] at h; cases h
        rw [if_pos s1021] at h
        refine rIld C hW (by decide) tm_framesOf s1021 dX11_takesRest_41 ?_
        refine lv_if_ne (tgt := 50) hx hb dX11_takesRest_42 (by decide) (fun c1022 => ?_) (fun c1022 => ?_)
        · rw [if_neg c1022] at h
          refine lv_bipush (v := 41) hx hb dX11_takesRest_50 (by decide) ?_
          refine lv_icmp_eq (tgt := 69) hx hb dX11_takesRest_52 (by decide) (fun c1023 => ?_) (fun c1023 => ?_)
          · rw [if_pos c1023] at h
            refine lv_aload_n hx hb dX11_takesRest_69 rfl (lv_at hl 1 rfl) ?_
            refine lv_dup hx hb dX11_takesRest_70 rfl ?_
            refine rGet (k := 18) C hW (by decide) tm_Model rfl inX11 (by decide) fl_X11_188 rfl dX11_takesRest_71 ?_
            refine lv_iconst (v := 1) hx hb dX11_takesRest_74 (by decide) ?_
            refine lv_iadd hx hb dX11_takesRest_75 ?_
            refine rPut (k := 18) C hW hS (by decide) tm_Model rfl inX11 tyX11_ok nmX11 (by decide) fl_X11_188 rfl (by decide +kernel) (Nat.le_of_ble_eq_true rfl) (upd_Model_at _) dX11_takesRest_76 (fun H locs hW hS => ?_)
            have hW : Wd g (up2 M 20 18 ((M 20 18) + (1))) H := hW
            have h := letE h
            generalize up2 M 20 18 ((M 20 18) + (1)) = M1024 at hW h
            refine lv_aload_n hx hb dX11_takesRest_79 rfl (lv_at hl 1 rfl) ?_
            refine rGet (k := 17) C hW (by decide) tm_Model rfl inX11 (by decide) fl_X11_40 rfl dX11_takesRest_80 ?_
            refine lv_aload_n hx hb dX11_takesRest_83 rfl (lv_at hl 1 rfl) ?_
            refine rGet (k := 15) C hW (by decide) tm_Model rfl inX11 (by decide) fl_X11_200 rfl dX11_takesRest_84 ?_
            have s1025 : vin (M1024 20 15) 6 := Classical.byContradiction fun q9 => by rw [if_neg q9] at h; cases h
            rw [if_pos s1025] at h
            refine rIld C hW (by decide) tm_framesOf s1025 dX11_takesRest_87 ?_
            refine lv_if_ne (tgt := 116) hx hb dX11_takesRest_88 (by decide) (fun c1026 => ?_) (fun c1026 => ?_)
            · rw [if_neg c1026] at h
              refine lv_aload_n hx hb dX11_takesRest_116 rfl (lv_at hl 1 rfl) ?_
              refine rGet (k := 20) C hW (by decide) tm_Model rfl inX11 (by decide) fl_X11_203 rfl dX11_takesRest_117 ?_
              refine lv_aload_n hx hb dX11_takesRest_120 rfl (lv_at hl 1 rfl) ?_
              refine rGet (k := 16) C hW (by decide) tm_Model rfl inX11 (by decide) fl_X11_37 rfl dX11_takesRest_121 ?_
              refine lv_aload_n hx hb dX11_takesRest_124 rfl (lv_at hl 1 rfl) ?_
              refine rGet (k := 15) C hW (by decide) tm_Model rfl inX11 (by decide) fl_X11_200 rfl dX11_takesRest_125 ?_
              have s1027 : vin (M1024 20 15) 6 := Classical.byContradiction fun q9 => by rw [if_neg q9] at h; cases h
              rw [if_pos s1027] at h
              refine rIld C hW (by decide) tm_firstOf s1027 dX11_takesRest_128 ?_
              refine lv_isub hx hb dX11_takesRest_129 ?_
              refine lv_istore_n (lv' := [(2, .int ((M1024 20 20) - (M1024 30 (M1024 20 15 : Int32).toNatClampNeg))), (1, .int (M 27 (M 20 18 : Int32).toNatClampNeg)), (0, rf g (1697))]) hx hb dX11_takesRest_130 rfl hl (by decide) rfl (fun ls hl => ?_)
              refine lv_iload_n hx hb dX11_takesRest_131 rfl (lv_at hl 0 rfl) ?_
              refine lv_if_ge (tgt := 140) hx hb dX11_takesRest_132 (by decide) (fun c1028 => ?_) (fun c1028 => ?_)
              · rw [if_pos c1028] at h
                refine lv_iload_n hx hb dX11_takesRest_140 rfl (lv_at hl 0 rfl) ?_
                refine lv_istore_n (lv' := [(2, .int ((M1024 20 20) - (M1024 30 (M1024 20 15 : Int32).toNatClampNeg))), (1, .int (M 27 (M 20 18 : Int32).toNatClampNeg)), (0, rf g (1697))]) hx hb dX11_takesRest_141 rfl hl (by decide) rfl (fun ls hl => ?_)
                refine lv_aload_n hx hb dX11_takesRest_142 rfl (lv_at hl 2 rfl) ?_
                refine lv_iload_n hx hb dX11_takesRest_143 rfl (lv_at hl 0 rfl) ?_
                refine lv_aload_n hx hb dX11_takesRest_144 rfl (lv_at hl 2 rfl) ?_
                refine rGet (k := 14) C hW (by decide) tm_Model rfl inX11 (by decide) fl_X11_206 rfl dX11_takesRest_145 ?_
                refine lv_icmp_le (tgt := 155) hx hb dX11_takesRest_148 (by decide) (fun c1029 => ?_) (fun c1029 => ?_)
                · rw [if_pos c1029] at h
                  refine lv_aload_n hx hb dX11_takesRest_155 rfl (lv_at hl 2 rfl) ?_
                  refine rGet (k := 14) C hW (by decide) tm_Model rfl inX11 (by decide) fl_X11_206 rfl dX11_takesRest_156 ?_
                  refine rPut (k := 14) C hW hS (by decide) tm_Model rfl inX11 tyX11_ok nmX11 (by decide) fl_X11_206 rfl (by decide +kernel) (Nat.le_of_ble_eq_true rfl) (upd_Model_slant _) dX11_takesRest_159 (fun H locs hW hS => ?_)
                  have hW : Wd g (up2 M1024 20 14 (M1024 20 14)) H := hW
                  have h := letE h
                  generalize up2 M1024 20 14 (M1024 20 14) = M1030 at hW h
                  refine lv_aload_n hx hb dX11_takesRest_162 rfl (lv_at hl 2 rfl) ?_
                  refine lv_dup hx hb dX11_takesRest_163 rfl ?_
                  refine rGet (k := 20) C hW (by decide) tm_Model rfl inX11 (by decide) fl_X11_203 rfl dX11_takesRest_164 ?_
                  refine lv_aload_n hx hb dX11_takesRest_167 rfl (lv_at hl 2 rfl) ?_
                  refine rGet (k := 16) C hW (by decide) tm_Model rfl inX11 (by decide) fl_X11_37 rfl dX11_takesRest_168 ?_
                  refine lv_aload_n hx hb dX11_takesRest_171 rfl (lv_at hl 2 rfl) ?_
                  refine rGet (k := 15) C hW (by decide) tm_Model rfl inX11 (by decide) fl_X11_200 rfl dX11_takesRest_172 ?_
                  have s1031 : vin (M1030 20 15) 6 := Classical.byContradiction fun q9 => by rw [if_neg q9] at h; cases h
                  rw [if_pos s1031] at h
                  refine rIld C hW (by decide) tm_firstOf s1031 dX11_takesRest_175 ?_
                  refine lv_iadd hx hb dX11_takesRest_176 ?_
                  refine rPut (k := 20) C hW hS (by decide) tm_Model rfl inX11 tyX11_ok nmX11 (by decide) fl_X11_203 rfl (by decide +kernel) (Nat.le_of_ble_eq_true rfl) (upd_Model_weighs _) dX11_takesRest_177 (fun H locs hW hS => ?_)
                  have hW : Wd g (up2 M1030 20 20 ((M1030 20 20) + (M1030 30 (M1030 20 15 : Int32).toNatClampNeg))) H := hW
                  have h := letE h
                  generalize up2 M1030 20 20 ((M1030 20 20) + (M1030 30 (M1030 20 15 : Int32).toNatClampNeg)) = M1032 at hW h
                  refine lv_aload_n hx hb dX11_takesRest_180 rfl (lv_at hl 2 rfl) ?_
                  refine lv_dup hx hb dX11_takesRest_181 rfl ?_
                  refine rGet (k := 15) C hW (by decide) tm_Model rfl inX11 (by decide) fl_X11_200 rfl dX11_takesRest_182 ?_
                  refine lv_iconst (v := 1) hx hb dX11_takesRest_185 (by decide) ?_
                  refine lv_isub hx hb dX11_takesRest_186 ?_
                  refine rPut (k := 15) C hW hS (by decide) tm_Model rfl inX11 tyX11_ok nmX11 (by decide) fl_X11_200 rfl (by decide +kernel) (Nat.le_of_ble_eq_true rfl) (upd_Model_open _) dX11_takesRest_187 (fun H locs hW hS => ?_)
                  have hW : Wd g (up2 M1032 20 15 ((M1032 20 15) - (1))) H := hW
                  have h := letE h
                  generalize up2 M1032 20 15 ((M1032 20 15) - (1)) = M1033 at hW h
                  refine lv_goto (tgt := 0) hx hb dX11_takesRest_190 (by decide) ?_
                  exact ih M1033  h _ _ hW hS ls (lv_sub hl [2] rfl)
                · rw [if_neg c1029] at h
                  refine lv_iload_n hx hb dX11_takesRest_151 rfl (lv_at hl 0 rfl) ?_
                  refine lv_goto (tgt := 159) hx hb dX11_takesRest_152 (by decide) ?_
                  refine rPut (k := 14) C hW hS (by decide) tm_Model rfl inX11 tyX11_ok nmX11 (by decide) fl_X11_206 rfl (by decide +kernel) (Nat.le_of_ble_eq_true rfl) (upd_Model_slant _) dX11_takesRest_159 (fun H locs hW hS => ?_)
                  have hW : Wd g (up2 M1024 20 14 ((M1024 20 20) - (M1024 30 (M1024 20 15 : Int32).toNatClampNeg))) H := hW
                  have h := letE h
                  generalize up2 M1024 20 14 ((M1024 20 20) - (M1024 30 (M1024 20 15 : Int32).toNatClampNeg)) = M1034 at hW h
                  refine lv_aload_n hx hb dX11_takesRest_162 rfl (lv_at hl 2 rfl) ?_
                  refine lv_dup hx hb dX11_takesRest_163 rfl ?_
                  refine rGet (k := 20) C hW (by decide) tm_Model rfl inX11 (by decide) fl_X11_203 rfl dX11_takesRest_164 ?_
                  refine lv_aload_n hx hb dX11_takesRest_167 rfl (lv_at hl 2 rfl) ?_
                  refine rGet (k := 16) C hW (by decide) tm_Model rfl inX11 (by decide) fl_X11_37 rfl dX11_takesRest_168 ?_
                  refine lv_aload_n hx hb dX11_takesRest_171 rfl (lv_at hl 2 rfl) ?_
                  refine rGet (k := 15) C hW (by decide) tm_Model rfl inX11 (by decide) fl_X11_200 rfl dX11_takesRest_172 ?_
                  have s1035 : vin (M1034 20 15) 6 := Classical.byContradiction fun q9 => by rw [if_neg q9] at h; cases h
                  rw [if_pos s1035] at h
                  refine rIld C hW (by decide) tm_firstOf s1035 dX11_takesRest_175 ?_
                  refine lv_iadd hx hb dX11_takesRest_176 ?_
                  refine rPut (k := 20) C hW hS (by decide) tm_Model rfl inX11 tyX11_ok nmX11 (by decide) fl_X11_203 rfl (by decide +kernel) (Nat.le_of_ble_eq_true rfl) (upd_Model_weighs _) dX11_takesRest_177 (fun H locs hW hS => ?_)
                  have hW : Wd g (up2 M1034 20 20 ((M1034 20 20) + (M1034 30 (M1034 20 15 : Int32).toNatClampNeg))) H := hW
                  have h := letE h
                  generalize up2 M1034 20 20 ((M1034 20 20) + (M1034 30 (M1034 20 15 : Int32).toNatClampNeg)) = M1036 at hW h
                  refine lv_aload_n hx hb dX11_takesRest_180 rfl (lv_at hl 2 rfl) ?_
                  refine lv_dup hx hb dX11_takesRest_181 rfl ?_
                  refine rGet (k := 15) C hW (by decide) tm_Model rfl inX11 (by decide) fl_X11_200 rfl dX11_takesRest_182 ?_
                  refine lv_iconst (v := 1) hx hb dX11_takesRest_185 (by decide) ?_
                  refine lv_isub hx hb dX11_takesRest_186 ?_
                  refine rPut (k := 15) C hW hS (by decide) tm_Model rfl inX11 tyX11_ok nmX11 (by decide) fl_X11_200 rfl (by decide +kernel) (Nat.le_of_ble_eq_true rfl) (upd_Model_open _) dX11_takesRest_187 (fun H locs hW hS => ?_)
                  have hW : Wd g (up2 M1036 20 15 ((M1036 20 15) - (1))) H := hW
                  have h := letE h
                  generalize up2 M1036 20 15 ((M1036 20 15) - (1)) = M1037 at hW h
                  refine lv_goto (tgt := 0) hx hb dX11_takesRest_190 (by decide) ?_
                  exact ih M1037  h _ _ hW hS ls (lv_sub hl [2] rfl)
              · rw [if_neg c1028] at h
                refine lv_iload_n hx hb dX11_takesRest_135 rfl (lv_at hl 0 rfl) ?_
                refine lv_ineg hx hb dX11_takesRest_136 ?_
                refine lv_goto (tgt := 141) hx hb dX11_takesRest_137 (by decide) ?_
                refine lv_istore_n (lv' := [(2, .int (-((M1024 20 20) - (M1024 30 (M1024 20 15 : Int32).toNatClampNeg)))), (1, .int (M 27 (M 20 18 : Int32).toNatClampNeg)), (0, rf g (1697))]) hx hb dX11_takesRest_141 rfl hl (by decide) rfl (fun ls hl => ?_)
                refine lv_aload_n hx hb dX11_takesRest_142 rfl (lv_at hl 2 rfl) ?_
                refine lv_iload_n hx hb dX11_takesRest_143 rfl (lv_at hl 0 rfl) ?_
                refine lv_aload_n hx hb dX11_takesRest_144 rfl (lv_at hl 2 rfl) ?_
                refine rGet (k := 14) C hW (by decide) tm_Model rfl inX11 (by decide) fl_X11_206 rfl dX11_takesRest_145 ?_
                refine lv_icmp_le (tgt := 155) hx hb dX11_takesRest_148 (by decide) (fun c1038 => ?_) (fun c1038 => ?_)
                · rw [if_pos c1038] at h
                  refine lv_aload_n hx hb dX11_takesRest_155 rfl (lv_at hl 2 rfl) ?_
                  refine rGet (k := 14) C hW (by decide) tm_Model rfl inX11 (by decide) fl_X11_206 rfl dX11_takesRest_156 ?_
                  refine rPut (k := 14) C hW hS (by decide) tm_Model rfl inX11 tyX11_ok nmX11 (by decide) fl_X11_206 rfl (by decide +kernel) (Nat.le_of_ble_eq_true rfl) (upd_Model_slant _) dX11_takesRest_159 (fun H locs hW hS => ?_)
                  have hW : Wd g (up2 M1024 20 14 (M1024 20 14)) H := hW
                  have h := letE h
                  generalize up2 M1024 20 14 (M1024 20 14) = M1039 at hW h
                  refine lv_aload_n hx hb dX11_takesRest_162 rfl (lv_at hl 2 rfl) ?_
                  refine lv_dup hx hb dX11_takesRest_163 rfl ?_
                  refine rGet (k := 20) C hW (by decide) tm_Model rfl inX11 (by decide) fl_X11_203 rfl dX11_takesRest_164 ?_
                  refine lv_aload_n hx hb dX11_takesRest_167 rfl (lv_at hl 2 rfl) ?_
                  refine rGet (k := 16) C hW (by decide) tm_Model rfl inX11 (by decide) fl_X11_37 rfl dX11_takesRest_168 ?_
                  refine lv_aload_n hx hb dX11_takesRest_171 rfl (lv_at hl 2 rfl) ?_
                  refine rGet (k := 15) C hW (by decide) tm_Model rfl inX11 (by decide) fl_X11_200 rfl dX11_takesRest_172 ?_
                  have s1040 : vin (M1039 20 15) 6 := Classical.byContradiction fun q9 => by rw [if_neg q9] at h; cases h
                  rw [if_pos s1040] at h
                  refine rIld C hW (by decide) tm_firstOf s1040 dX11_takesRest_175 ?_
                  refine lv_iadd hx hb dX11_takesRest_176 ?_
                  refine rPut (k := 20) C hW hS (by decide) tm_Model rfl inX11 tyX11_ok nmX11 (by decide) fl_X11_203 rfl (by decide +kernel) (Nat.le_of_ble_eq_true rfl) (upd_Model_weighs _) dX11_takesRest_177 (fun H locs hW hS => ?_)
                  have hW : Wd g (up2 M1039 20 20 ((M1039 20 20) + (M1039 30 (M1039 20 15 : Int32).toNatClampNeg))) H := hW
                  have h := letE h
                  generalize up2 M1039 20 20 ((M1039 20 20) + (M1039 30 (M1039 20 15 : Int32).toNatClampNeg)) = M1041 at hW h
                  refine lv_aload_n hx hb dX11_takesRest_180 rfl (lv_at hl 2 rfl) ?_
                  refine lv_dup hx hb dX11_takesRest_181 rfl ?_
                  refine rGet (k := 15) C hW (by decide) tm_Model rfl inX11 (by decide) fl_X11_200 rfl dX11_takesRest_182 ?_
                  refine lv_iconst (v := 1) hx hb dX11_takesRest_185 (by decide) ?_
                  refine lv_isub hx hb dX11_takesRest_186 ?_
                  refine rPut (k := 15) C hW hS (by decide) tm_Model rfl inX11 tyX11_ok nmX11 (by decide) fl_X11_200 rfl (by decide +kernel) (Nat.le_of_ble_eq_true rfl) (upd_Model_open _) dX11_takesRest_187 (fun H locs hW hS => ?_)
                  have hW : Wd g (up2 M1041 20 15 ((M1041 20 15) - (1))) H := hW
                  have h := letE h
                  generalize up2 M1041 20 15 ((M1041 20 15) - (1)) = M1042 at hW h
                  refine lv_goto (tgt := 0) hx hb dX11_takesRest_190 (by decide) ?_
                  exact ih M1042  h _ _ hW hS ls (lv_sub hl [2] rfl)
                · rw [if_neg c1038] at h
                  refine lv_iload_n hx hb dX11_takesRest_151 rfl (lv_at hl 0 rfl) ?_
                  refine lv_goto (tgt := 159) hx hb dX11_takesRest_152 (by decide) ?_
                  refine rPut (k := 14) C hW hS (by decide) tm_Model rfl inX11 tyX11_ok nmX11 (by decide) fl_X11_206 rfl (by decide +kernel) (Nat.le_of_ble_eq_true rfl) (upd_Model_slant _) dX11_takesRest_159 (fun H locs hW hS => ?_)
                  have hW : Wd g (up2 M1024 20 14 (-((M1024 20 20) - (M1024 30 (M1024 20 15 : Int32).toNatClampNeg)))) H := hW
                  have h := letE h
                  generalize up2 M1024 20 14 (-((M1024 20 20) - (M1024 30 (M1024 20 15 : Int32).toNatClampNeg))) = M1043 at hW h
                  refine lv_aload_n hx hb dX11_takesRest_162 rfl (lv_at hl 2 rfl) ?_
                  refine lv_dup hx hb dX11_takesRest_163 rfl ?_
                  refine rGet (k := 20) C hW (by decide) tm_Model rfl inX11 (by decide) fl_X11_203 rfl dX11_takesRest_164 ?_
                  refine lv_aload_n hx hb dX11_takesRest_167 rfl (lv_at hl 2 rfl) ?_
                  refine rGet (k := 16) C hW (by decide) tm_Model rfl inX11 (by decide) fl_X11_37 rfl dX11_takesRest_168 ?_
                  refine lv_aload_n hx hb dX11_takesRest_171 rfl (lv_at hl 2 rfl) ?_
                  refine rGet (k := 15) C hW (by decide) tm_Model rfl inX11 (by decide) fl_X11_200 rfl dX11_takesRest_172 ?_
                  have s1044 : vin (M1043 20 15) 6 := Classical.byContradiction fun q9 => by rw [if_neg q9] at h; cases h
                  rw [if_pos s1044] at h
                  refine rIld C hW (by decide) tm_firstOf s1044 dX11_takesRest_175 ?_
                  refine lv_iadd hx hb dX11_takesRest_176 ?_
                  refine rPut (k := 20) C hW hS (by decide) tm_Model rfl inX11 tyX11_ok nmX11 (by decide) fl_X11_203 rfl (by decide +kernel) (Nat.le_of_ble_eq_true rfl) (upd_Model_weighs _) dX11_takesRest_177 (fun H locs hW hS => ?_)
                  have hW : Wd g (up2 M1043 20 20 ((M1043 20 20) + (M1043 30 (M1043 20 15 : Int32).toNatClampNeg))) H := hW
                  have h := letE h
                  generalize up2 M1043 20 20 ((M1043 20 20) + (M1043 30 (M1043 20 15 : Int32).toNatClampNeg)) = M1045 at hW h
                  refine lv_aload_n hx hb dX11_takesRest_180 rfl (lv_at hl 2 rfl) ?_
                  refine lv_dup hx hb dX11_takesRest_181 rfl ?_
                  refine rGet (k := 15) C hW (by decide) tm_Model rfl inX11 (by decide) fl_X11_200 rfl dX11_takesRest_182 ?_
                  refine lv_iconst (v := 1) hx hb dX11_takesRest_185 (by decide) ?_
                  refine lv_isub hx hb dX11_takesRest_186 ?_
                  refine rPut (k := 15) C hW hS (by decide) tm_Model rfl inX11 tyX11_ok nmX11 (by decide) fl_X11_200 rfl (by decide +kernel) (Nat.le_of_ble_eq_true rfl) (upd_Model_open _) dX11_takesRest_187 (fun H locs hW hS => ?_)
                  have hW : Wd g (up2 M1045 20 15 ((M1045 20 15) - (1))) H := hW
                  have h := letE h
                  generalize up2 M1045 20 15 ((M1045 20 15) - (1)) = M1046 at hW h
                  refine lv_goto (tgt := 0) hx hb dX11_takesRest_190 (by decide) ?_
                  exact ih M1046  h _ _ hW hS ls (lv_sub hl [2] rfl)
            · rw [if_pos c1026] at h
              refine lv_aload_n hx hb dX11_takesRest_91 rfl (lv_at hl 1 rfl) ?_
              refine rGet (k := 17) C hW (by decide) tm_Model rfl inX11 (by decide) fl_X11_40 rfl dX11_takesRest_92 ?_
              refine lv_aload_n hx hb dX11_takesRest_95 rfl (lv_at hl 1 rfl) ?_
              refine rGet (k := 15) C hW (by decide) tm_Model rfl inX11 (by decide) fl_X11_200 rfl dX11_takesRest_96 ?_
              refine lv_iconst (v := 1) hx hb dX11_takesRest_99 (by decide) ?_
              have s1047 : vin (M1024 20 15) 6 := Classical.byContradiction fun q9 => by rw [if_neg q9] at h; cases h
              rw [if_pos s1047] at h
              refine rIst (M' := up2 M1024 31 (M1024 20 15 : Int32).toNatClampNeg (1)) C hW hS (by decide) tm_framesOf s1047 (UPD_G (by decide) rfl (by rw [tm_framesOf, up2_gr])) dX11_takesRest_100 (fun H locs hW hS => ?_)
              have hW : Wd g (up2 M1024 31 (M1024 20 15 : Int32).toNatClampNeg (1)) H := hW
              have h := letE h
              generalize up2 M1024 31 (M1024 20 15 : Int32).toNatClampNeg (1) = M1048 at hW h
              refine lv_aload_n hx hb dX11_takesRest_101 rfl (lv_at hl 1 rfl) ?_
              refine rGet (k := 16) C hW (by decide) tm_Model rfl inX11 (by decide) fl_X11_37 rfl dX11_takesRest_102 ?_
              refine lv_aload_n hx hb dX11_takesRest_105 rfl (lv_at hl 1 rfl) ?_
              refine rGet (k := 15) C hW (by decide) tm_Model rfl inX11 (by decide) fl_X11_200 rfl dX11_takesRest_106 ?_
              refine lv_aload_n hx hb dX11_takesRest_109 rfl (lv_at hl 1 rfl) ?_
              refine rGet (k := 20) C hW (by decide) tm_Model rfl inX11 (by decide) fl_X11_203 rfl dX11_takesRest_110 ?_
              have s1049 : vin (M1048 20 15) 6 := Classical.byContradiction fun q9 => by rw [if_neg q9] at h; cases h
              rw [if_pos s1049] at h
              refine rIst (M' := up2 M1048 30 (M1048 20 15 : Int32).toNatClampNeg (M1048 20 20)) C hW hS (by decide) tm_firstOf s1049 (UPD_G (by decide) rfl (by rw [tm_firstOf, up2_gr])) dX11_takesRest_113 (fun H locs hW hS => ?_)
              have hW : Wd g (up2 M1048 30 (M1048 20 15 : Int32).toNatClampNeg (M1048 20 20)) H := hW
              have h := letE h
              generalize up2 M1048 30 (M1048 20 15 : Int32).toNatClampNeg (M1048 20 20) = M1050 at hW h
              refine lv_iconst (v := 1) hx hb dX11_takesRest_114 (by decide) ?_
              cases h
              exact rZ C hr hlk dX11_takesRest_115 hW hS (nar01 (Or.inr rfl)) ⟨rfl, rfl, (Or.inr rfl)⟩
          · rw [if_neg c1023] at h
            refine lv_aload_n hx hb dX11_takesRest_55 rfl (lv_at hl 1 rfl) ?_
            refine lv_iload_n hx hb dX11_takesRest_56 rfl (lv_at hl 0 rfl) ?_
            refine lv_if_ge (tgt := 64) hx hb dX11_takesRest_57 (by decide) (fun c1051 => ?_) (fun c1051 => ?_)
            · rw [if_pos c1051] at h
              refine lv_iconst (v := 1) hx hb dX11_takesRest_64 (by decide) ?_
              obtain ⟨r1052, M1053, h1054, h⟩ := bind2 h
              refine cBack C.2.2.2.2.2.2.2.2 (runV (As := [.int (1)]) (rest := []) C hW hS (c_X11_fails l g M 1 _ _ h1054) kV_X11_fails ml_X11_194 (by decide) tm_Model rfl rfl rfl hl.1 rfl (Nat.le_of_ble_eq_true rfl) ⟨Nat.le_of_ble_eq_true rfl, Nat.le_of_ble_eq_true rfl⟩ ⟨Nat.zero_le _, Nat.zero_le _⟩ dX11_takesRest_65) hS (fun v0 w0 H locs hp hW hS => ?_)
              obtain ⟨rfl, rfl, zr1052⟩ := hp
              cases h
              exact rZ C hr hlk dX11_takesRest_68 hW hS (nar01 zr1052) ⟨rfl, rfl, zr1052⟩
            · rw [if_neg c1051] at h
              refine lv_iconst (v := 4) hx hb dX11_takesRest_60 (by decide) ?_
              refine lv_goto (tgt := 65) hx hb dX11_takesRest_61 (by decide) ?_
              obtain ⟨r1055, M1056, h1057, h⟩ := bind2 h
              refine cBack C.2.2.2.2.2.2.2.2 (runV (As := [.int (4)]) (rest := []) C hW hS (c_X11_fails l g M 4 _ _ h1057) kV_X11_fails ml_X11_194 (by decide) tm_Model rfl rfl rfl hl.1 rfl (Nat.le_of_ble_eq_true rfl) ⟨Nat.le_of_ble_eq_true rfl, Nat.le_of_ble_eq_true rfl⟩ ⟨Nat.zero_le _, Nat.zero_le _⟩ dX11_takesRest_65) hS (fun v0 w0 H locs hp hW hS => ?_)
              obtain ⟨rfl, rfl, zr1055⟩ := hp
              cases h
              exact rZ C hr hlk dX11_takesRest_68 hW hS (nar01 zr1055) ⟨rfl, rfl, zr1055⟩
        · rw [if_pos c1022] at h
          refine lv_bipush (v := 44) hx hb dX11_takesRest_45 (by decide) ?_
          refine lv_goto (tgt := 52) hx hb dX11_takesRest_47 (by decide) ?_
          refine lv_icmp_eq (tgt := 69) hx hb dX11_takesRest_52 (by decide) (fun c1058 => ?_) (fun c1058 => ?_)
          · rw [if_pos c1058] at h
            refine lv_aload_n hx hb dX11_takesRest_69 rfl (lv_at hl 1 rfl) ?_
            refine lv_dup hx hb dX11_takesRest_70 rfl ?_
            refine rGet (k := 18) C hW (by decide) tm_Model rfl inX11 (by decide) fl_X11_188 rfl dX11_takesRest_71 ?_
            refine lv_iconst (v := 1) hx hb dX11_takesRest_74 (by decide) ?_
            refine lv_iadd hx hb dX11_takesRest_75 ?_
            refine rPut (k := 18) C hW hS (by decide) tm_Model rfl inX11 tyX11_ok nmX11 (by decide) fl_X11_188 rfl (by decide +kernel) (Nat.le_of_ble_eq_true rfl) (upd_Model_at _) dX11_takesRest_76 (fun H locs hW hS => ?_)
            have hW : Wd g (up2 M 20 18 ((M 20 18) + (1))) H := hW
            have h := letE h
            generalize up2 M 20 18 ((M 20 18) + (1)) = M1059 at hW h
            refine lv_aload_n hx hb dX11_takesRest_79 rfl (lv_at hl 1 rfl) ?_
            refine rGet (k := 17) C hW (by decide) tm_Model rfl inX11 (by decide) fl_X11_40 rfl dX11_takesRest_80 ?_
            refine lv_aload_n hx hb dX11_takesRest_83 rfl (lv_at hl 1 rfl) ?_
            refine rGet (k := 15) C hW (by decide) tm_Model rfl inX11 (by decide) fl_X11_200 rfl dX11_takesRest_84 ?_
            have s1060 : vin (M1059 20 15) 6 := Classical.byContradiction fun q9 => by rw [if_neg q9] at h; cases h
            rw [if_pos s1060] at h
            refine rIld C hW (by decide) tm_framesOf s1060 dX11_takesRest_87 ?_
            refine lv_if_ne (tgt := 116) hx hb dX11_takesRest_88 (by decide) (fun c1061 => ?_) (fun c1061 => ?_)
            · rw [if_neg c1061] at h
              refine lv_aload_n hx hb dX11_takesRest_116 rfl (lv_at hl 1 rfl) ?_
              refine rGet (k := 20) C hW (by decide) tm_Model rfl inX11 (by decide) fl_X11_203 rfl dX11_takesRest_117 ?_
              refine lv_aload_n hx hb dX11_takesRest_120 rfl (lv_at hl 1 rfl) ?_
              refine rGet (k := 16) C hW (by decide) tm_Model rfl inX11 (by decide) fl_X11_37 rfl dX11_takesRest_121 ?_
              refine lv_aload_n hx hb dX11_takesRest_124 rfl (lv_at hl 1 rfl) ?_
              refine rGet (k := 15) C hW (by decide) tm_Model rfl inX11 (by decide) fl_X11_200 rfl dX11_takesRest_125 ?_
              have s1062 : vin (M1059 20 15) 6 := Classical.byContradiction fun q9 => by rw [if_neg q9] at h; cases h
              rw [if_pos s1062] at h
              refine rIld C hW (by decide) tm_firstOf s1062 dX11_takesRest_128 ?_
              refine lv_isub hx hb dX11_takesRest_129 ?_
              refine lv_istore_n (lv' := [(2, .int ((M1059 20 20) - (M1059 30 (M1059 20 15 : Int32).toNatClampNeg))), (1, .int (M 27 (M 20 18 : Int32).toNatClampNeg)), (0, rf g (1697))]) hx hb dX11_takesRest_130 rfl hl (by decide) rfl (fun ls hl => ?_)
              refine lv_iload_n hx hb dX11_takesRest_131 rfl (lv_at hl 0 rfl) ?_
              refine lv_if_ge (tgt := 140) hx hb dX11_takesRest_132 (by decide) (fun c1063 => ?_) (fun c1063 => ?_)
              · rw [if_pos c1063] at h
                refine lv_iload_n hx hb dX11_takesRest_140 rfl (lv_at hl 0 rfl) ?_
                refine lv_istore_n (lv' := [(2, .int ((M1059 20 20) - (M1059 30 (M1059 20 15 : Int32).toNatClampNeg))), (1, .int (M 27 (M 20 18 : Int32).toNatClampNeg)), (0, rf g (1697))]) hx hb dX11_takesRest_141 rfl hl (by decide) rfl (fun ls hl => ?_)
                refine lv_aload_n hx hb dX11_takesRest_142 rfl (lv_at hl 2 rfl) ?_
                refine lv_iload_n hx hb dX11_takesRest_143 rfl (lv_at hl 0 rfl) ?_
                refine lv_aload_n hx hb dX11_takesRest_144 rfl (lv_at hl 2 rfl) ?_
                refine rGet (k := 14) C hW (by decide) tm_Model rfl inX11 (by decide) fl_X11_206 rfl dX11_takesRest_145 ?_
                refine lv_icmp_le (tgt := 155) hx hb dX11_takesRest_148 (by decide) (fun c1064 => ?_) (fun c1064 => ?_)
                · rw [if_pos c1064] at h
                  refine lv_aload_n hx hb dX11_takesRest_155 rfl (lv_at hl 2 rfl) ?_
                  refine rGet (k := 14) C hW (by decide) tm_Model rfl inX11 (by decide) fl_X11_206 rfl dX11_takesRest_156 ?_
                  refine rPut (k := 14) C hW hS (by decide) tm_Model rfl inX11 tyX11_ok nmX11 (by decide) fl_X11_206 rfl (by decide +kernel) (Nat.le_of_ble_eq_true rfl) (upd_Model_slant _) dX11_takesRest_159 (fun H locs hW hS => ?_)
                  have hW : Wd g (up2 M1059 20 14 (M1059 20 14)) H := hW
                  have h := letE h
                  generalize up2 M1059 20 14 (M1059 20 14) = M1065 at hW h
                  refine lv_aload_n hx hb dX11_takesRest_162 rfl (lv_at hl 2 rfl) ?_
                  refine lv_dup hx hb dX11_takesRest_163 rfl ?_
                  refine rGet (k := 20) C hW (by decide) tm_Model rfl inX11 (by decide) fl_X11_203 rfl dX11_takesRest_164 ?_
                  refine lv_aload_n hx hb dX11_takesRest_167 rfl (lv_at hl 2 rfl) ?_
                  refine rGet (k := 16) C hW (by decide) tm_Model rfl inX11 (by decide) fl_X11_37 rfl dX11_takesRest_168 ?_
                  refine lv_aload_n hx hb dX11_takesRest_171 rfl (lv_at hl 2 rfl) ?_
                  refine rGet (k := 15) C hW (by decide) tm_Model rfl inX11 (by decide) fl_X11_200 rfl dX11_takesRest_172 ?_
                  have s1066 : vin (M1065 20 15) 6 := Classical.byContradiction fun q9 => by rw [if_neg q9] at h; cases h
                  rw [if_pos s1066] at h
                  refine rIld C hW (by decide) tm_firstOf s1066 dX11_takesRest_175 ?_
                  refine lv_iadd hx hb dX11_takesRest_176 ?_
                  refine rPut (k := 20) C hW hS (by decide) tm_Model rfl inX11 tyX11_ok nmX11 (by decide) fl_X11_203 rfl (by decide +kernel) (Nat.le_of_ble_eq_true rfl) (upd_Model_weighs _) dX11_takesRest_177 (fun H locs hW hS => ?_)
                  have hW : Wd g (up2 M1065 20 20 ((M1065 20 20) + (M1065 30 (M1065 20 15 : Int32).toNatClampNeg))) H := hW
                  have h := letE h
                  generalize up2 M1065 20 20 ((M1065 20 20) + (M1065 30 (M1065 20 15 : Int32).toNatClampNeg)) = M1067 at hW h
                  refine lv_aload_n hx hb dX11_takesRest_180 rfl (lv_at hl 2 rfl) ?_
                  refine lv_dup hx hb dX11_takesRest_181 rfl ?_
                  refine rGet (k := 15) C hW (by decide) tm_Model rfl inX11 (by decide) fl_X11_200 rfl dX11_takesRest_182 ?_
                  refine lv_iconst (v := 1) hx hb dX11_takesRest_185 (by decide) ?_
                  refine lv_isub hx hb dX11_takesRest_186 ?_
                  refine rPut (k := 15) C hW hS (by decide) tm_Model rfl inX11 tyX11_ok nmX11 (by decide) fl_X11_200 rfl (by decide +kernel) (Nat.le_of_ble_eq_true rfl) (upd_Model_open _) dX11_takesRest_187 (fun H locs hW hS => ?_)
                  have hW : Wd g (up2 M1067 20 15 ((M1067 20 15) - (1))) H := hW
                  have h := letE h
                  generalize up2 M1067 20 15 ((M1067 20 15) - (1)) = M1068 at hW h
                  refine lv_goto (tgt := 0) hx hb dX11_takesRest_190 (by decide) ?_
                  exact ih M1068  h _ _ hW hS ls (lv_sub hl [2] rfl)
                · rw [if_neg c1064] at h
                  refine lv_iload_n hx hb dX11_takesRest_151 rfl (lv_at hl 0 rfl) ?_
                  refine lv_goto (tgt := 159) hx hb dX11_takesRest_152 (by decide) ?_
                  refine rPut (k := 14) C hW hS (by decide) tm_Model rfl inX11 tyX11_ok nmX11 (by decide) fl_X11_206 rfl (by decide +kernel) (Nat.le_of_ble_eq_true rfl) (upd_Model_slant _) dX11_takesRest_159 (fun H locs hW hS => ?_)
                  have hW : Wd g (up2 M1059 20 14 ((M1059 20 20) - (M1059 30 (M1059 20 15 : Int32).toNatClampNeg))) H := hW
                  have h := letE h
                  generalize up2 M1059 20 14 ((M1059 20 20) - (M1059 30 (M1059 20 15 : Int32).toNatClampNeg)) = M1069 at hW h
                  refine lv_aload_n hx hb dX11_takesRest_162 rfl (lv_at hl 2 rfl) ?_
                  refine lv_dup hx hb dX11_takesRest_163 rfl ?_
                  refine rGet (k := 20) C hW (by decide) tm_Model rfl inX11 (by decide) fl_X11_203 rfl dX11_takesRest_164 ?_
                  refine lv_aload_n hx hb dX11_takesRest_167 rfl (lv_at hl 2 rfl) ?_
                  refine rGet (k := 16) C hW (by decide) tm_Model rfl inX11 (by decide) fl_X11_37 rfl dX11_takesRest_168 ?_
                  refine lv_aload_n hx hb dX11_takesRest_171 rfl (lv_at hl 2 rfl) ?_
                  refine rGet (k := 15) C hW (by decide) tm_Model rfl inX11 (by decide) fl_X11_200 rfl dX11_takesRest_172 ?_
                  have s1070 : vin (M1069 20 15) 6 := Classical.byContradiction fun q9 => by rw [if_neg q9] at h; cases h
                  rw [if_pos s1070] at h
                  refine rIld C hW (by decide) tm_firstOf s1070 dX11_takesRest_175 ?_
                  refine lv_iadd hx hb dX11_takesRest_176 ?_
                  refine rPut (k := 20) C hW hS (by decide) tm_Model rfl inX11 tyX11_ok nmX11 (by decide) fl_X11_203 rfl (by decide +kernel) (Nat.le_of_ble_eq_true rfl) (upd_Model_weighs _) dX11_takesRest_177 (fun H locs hW hS => ?_)
                  have hW : Wd g (up2 M1069 20 20 ((M1069 20 20) + (M1069 30 (M1069 20 15 : Int32).toNatClampNeg))) H := hW
                  have h := letE h
                  generalize up2 M1069 20 20 ((M1069 20 20) + (M1069 30 (M1069 20 15 : Int32).toNatClampNeg)) = M1071 at hW h
                  refine lv_aload_n hx hb dX11_takesRest_180 rfl (lv_at hl 2 rfl) ?_
                  refine lv_dup hx hb dX11_takesRest_181 rfl ?_
                  refine rGet (k := 15) C hW (by decide) tm_Model rfl inX11 (by decide) fl_X11_200 rfl dX11_takesRest_182 ?_
                  refine lv_iconst (v := 1) hx hb dX11_takesRest_185 (by decide) ?_
                  refine lv_isub hx hb dX11_takesRest_186 ?_
                  refine rPut (k := 15) C hW hS (by decide) tm_Model rfl inX11 tyX11_ok nmX11 (by decide) fl_X11_200 rfl (by decide +kernel) (Nat.le_of_ble_eq_true rfl) (upd_Model_open _) dX11_takesRest_187 (fun H locs hW hS => ?_)
                  have hW : Wd g (up2 M1071 20 15 ((M1071 20 15) - (1))) H := hW
                  have h := letE h
                  generalize up2 M1071 20 15 ((M1071 20 15) - (1)) = M1072 at hW h
                  refine lv_goto (tgt := 0) hx hb dX11_takesRest_190 (by decide) ?_
                  exact ih M1072  h _ _ hW hS ls (lv_sub hl [2] rfl)
              · rw [if_neg c1063] at h
                refine lv_iload_n hx hb dX11_takesRest_135 rfl (lv_at hl 0 rfl) ?_
                refine lv_ineg hx hb dX11_takesRest_136 ?_
                refine lv_goto (tgt := 141) hx hb dX11_takesRest_137 (by decide) ?_
                refine lv_istore_n (lv' := [(2, .int (-((M1059 20 20) - (M1059 30 (M1059 20 15 : Int32).toNatClampNeg)))), (1, .int (M 27 (M 20 18 : Int32).toNatClampNeg)), (0, rf g (1697))]) hx hb dX11_takesRest_141 rfl hl (by decide) rfl (fun ls hl => ?_)
                refine lv_aload_n hx hb dX11_takesRest_142 rfl (lv_at hl 2 rfl) ?_
                refine lv_iload_n hx hb dX11_takesRest_143 rfl (lv_at hl 0 rfl) ?_
                refine lv_aload_n hx hb dX11_takesRest_144 rfl (lv_at hl 2 rfl) ?_
                refine rGet (k := 14) C hW (by decide) tm_Model rfl inX11 (by decide) fl_X11_206 rfl dX11_takesRest_145 ?_
                refine lv_icmp_le (tgt := 155) hx hb dX11_takesRest_148 (by decide) (fun c1073 => ?_) (fun c1073 => ?_)
                · rw [if_pos c1073] at h
                  refine lv_aload_n hx hb dX11_takesRest_155 rfl (lv_at hl 2 rfl) ?_
                  refine rGet (k := 14) C hW (by decide) tm_Model rfl inX11 (by decide) fl_X11_206 rfl dX11_takesRest_156 ?_
                  refine rPut (k := 14) C hW hS (by decide) tm_Model rfl inX11 tyX11_ok nmX11 (by decide) fl_X11_206 rfl (by decide +kernel) (Nat.le_of_ble_eq_true rfl) (upd_Model_slant _) dX11_takesRest_159 (fun H locs hW hS => ?_)
                  have hW : Wd g (up2 M1059 20 14 (M1059 20 14)) H := hW
                  have h := letE h
                  generalize up2 M1059 20 14 (M1059 20 14) = M1074 at hW h
                  refine lv_aload_n hx hb dX11_takesRest_162 rfl (lv_at hl 2 rfl) ?_
                  refine lv_dup hx hb dX11_takesRest_163 rfl ?_
                  refine rGet (k := 20) C hW (by decide) tm_Model rfl inX11 (by decide) fl_X11_203 rfl dX11_takesRest_164 ?_
                  refine lv_aload_n hx hb dX11_takesRest_167 rfl (lv_at hl 2 rfl) ?_
                  refine rGet (k := 16) C hW (by decide) tm_Model rfl inX11 (by decide) fl_X11_37 rfl dX11_takesRest_168 ?_
                  refine lv_aload_n hx hb dX11_takesRest_171 rfl (lv_at hl 2 rfl) ?_
                  refine rGet (k := 15) C hW (by decide) tm_Model rfl inX11 (by decide) fl_X11_200 rfl dX11_takesRest_172 ?_
                  have s1075 : vin (M1074 20 15) 6 := Classical.byContradiction fun q9 => by rw [if_neg q9] at h; cases h
                  rw [if_pos s1075] at h
                  refine rIld C hW (by decide) tm_firstOf s1075 dX11_takesRest_175 ?_
                  refine lv_iadd hx hb dX11_takesRest_176 ?_
                  refine rPut (k := 20) C hW hS (by decide) tm_Model rfl inX11 tyX11_ok nmX11 (by decide) fl_X11_203 rfl (by decide +kernel) (Nat.le_of_ble_eq_true rfl) (upd_Model_weighs _) dX11_takesRest_177 (fun H locs hW hS => ?_)
                  have hW : Wd g (up2 M1074 20 20 ((M1074 20 20) + (M1074 30 (M1074 20 15 : Int32).toNatClampNeg))) H := hW
                  have h := letE h
                  generalize up2 M1074 20 20 ((M1074 20 20) + (M1074 30 (M1074 20 15 : Int32).toNatClampNeg)) = M1076 at hW h
                  refine lv_aload_n hx hb dX11_takesRest_180 rfl (lv_at hl 2 rfl) ?_
                  refine lv_dup hx hb dX11_takesRest_181 rfl ?_
                  refine rGet (k := 15) C hW (by decide) tm_Model rfl inX11 (by decide) fl_X11_200 rfl dX11_takesRest_182 ?_
                  refine lv_iconst (v := 1) hx hb dX11_takesRest_185 (by decide) ?_
                  refine lv_isub hx hb dX11_takesRest_186 ?_
                  refine rPut (k := 15) C hW hS (by decide) tm_Model rfl inX11 tyX11_ok nmX11 (by decide) fl_X11_200 rfl (by decide +kernel) (Nat.le_of_ble_eq_true rfl) (upd_Model_open _) dX11_takesRest_187 (fun H locs hW hS => ?_)
                  have hW : Wd g (up2 M1076 20 15 ((M1076 20 15) - (1))) H := hW
                  have h := letE h
                  generalize up2 M1076 20 15 ((M1076 20 15) - (1)) = M1077 at hW h
                  refine lv_goto (tgt := 0) hx hb dX11_takesRest_190 (by decide) ?_
                  exact ih M1077  h _ _ hW hS ls (lv_sub hl [2] rfl)
                · rw [if_neg c1073] at h
                  refine lv_iload_n hx hb dX11_takesRest_151 rfl (lv_at hl 0 rfl) ?_
                  refine lv_goto (tgt := 159) hx hb dX11_takesRest_152 (by decide) ?_
                  refine rPut (k := 14) C hW hS (by decide) tm_Model rfl inX11 tyX11_ok nmX11 (by decide) fl_X11_206 rfl (by decide +kernel) (Nat.le_of_ble_eq_true rfl) (upd_Model_slant _) dX11_takesRest_159 (fun H locs hW hS => ?_)
                  have hW : Wd g (up2 M1059 20 14 (-((M1059 20 20) - (M1059 30 (M1059 20 15 : Int32).toNatClampNeg)))) H := hW
                  have h := letE h
                  generalize up2 M1059 20 14 (-((M1059 20 20) - (M1059 30 (M1059 20 15 : Int32).toNatClampNeg))) = M1078 at hW h
                  refine lv_aload_n hx hb dX11_takesRest_162 rfl (lv_at hl 2 rfl) ?_
                  refine lv_dup hx hb dX11_takesRest_163 rfl ?_
                  refine rGet (k := 20) C hW (by decide) tm_Model rfl inX11 (by decide) fl_X11_203 rfl dX11_takesRest_164 ?_
                  refine lv_aload_n hx hb dX11_takesRest_167 rfl (lv_at hl 2 rfl) ?_
                  refine rGet (k := 16) C hW (by decide) tm_Model rfl inX11 (by decide) fl_X11_37 rfl dX11_takesRest_168 ?_
                  refine lv_aload_n hx hb dX11_takesRest_171 rfl (lv_at hl 2 rfl) ?_
                  refine rGet (k := 15) C hW (by decide) tm_Model rfl inX11 (by decide) fl_X11_200 rfl dX11_takesRest_172 ?_
                  have s1079 : vin (M1078 20 15) 6 := Classical.byContradiction fun q9 => by rw [if_neg q9] at h; cases h
                  rw [if_pos s1079] at h
                  refine rIld C hW (by decide) tm_firstOf s1079 dX11_takesRest_175 ?_
                  refine lv_iadd hx hb dX11_takesRest_176 ?_
                  refine rPut (k := 20) C hW hS (by decide) tm_Model rfl inX11 tyX11_ok nmX11 (by decide) fl_X11_203 rfl (by decide +kernel) (Nat.le_of_ble_eq_true rfl) (upd_Model_weighs _) dX11_takesRest_177 (fun H locs hW hS => ?_)
                  have hW : Wd g (up2 M1078 20 20 ((M1078 20 20) + (M1078 30 (M1078 20 15 : Int32).toNatClampNeg))) H := hW
                  have h := letE h
                  generalize up2 M1078 20 20 ((M1078 20 20) + (M1078 30 (M1078 20 15 : Int32).toNatClampNeg)) = M1080 at hW h
                  refine lv_aload_n hx hb dX11_takesRest_180 rfl (lv_at hl 2 rfl) ?_
                  refine lv_dup hx hb dX11_takesRest_181 rfl ?_
                  refine rGet (k := 15) C hW (by decide) tm_Model rfl inX11 (by decide) fl_X11_200 rfl dX11_takesRest_182 ?_
                  refine lv_iconst (v := 1) hx hb dX11_takesRest_185 (by decide) ?_
                  refine lv_isub hx hb dX11_takesRest_186 ?_
                  refine rPut (k := 15) C hW hS (by decide) tm_Model rfl inX11 tyX11_ok nmX11 (by decide) fl_X11_200 rfl (by decide +kernel) (Nat.le_of_ble_eq_true rfl) (upd_Model_open _) dX11_takesRest_187 (fun H locs hW hS => ?_)
                  have hW : Wd g (up2 M1080 20 15 ((M1080 20 15) - (1))) H := hW
                  have h := letE h
                  generalize up2 M1080 20 15 ((M1080 20 15) - (1)) = M1081 at hW h
                  refine lv_goto (tgt := 0) hx hb dX11_takesRest_190 (by decide) ?_
                  exact ih M1081  h _ _ hW hS ls (lv_sub hl [2] rfl)
            · rw [if_pos c1061] at h
              refine lv_aload_n hx hb dX11_takesRest_91 rfl (lv_at hl 1 rfl) ?_
              refine rGet (k := 17) C hW (by decide) tm_Model rfl inX11 (by decide) fl_X11_40 rfl dX11_takesRest_92 ?_
              refine lv_aload_n hx hb dX11_takesRest_95 rfl (lv_at hl 1 rfl) ?_
              refine rGet (k := 15) C hW (by decide) tm_Model rfl inX11 (by decide) fl_X11_200 rfl dX11_takesRest_96 ?_
              refine lv_iconst (v := 1) hx hb dX11_takesRest_99 (by decide) ?_
              have s1082 : vin (M1059 20 15) 6 := Classical.byContradiction fun q9 => by rw [if_neg q9] at h; cases h
              rw [if_pos s1082] at h
              refine rIst (M' := up2 M1059 31 (M1059 20 15 : Int32).toNatClampNeg (1)) C hW hS (by decide) tm_framesOf s1082 (UPD_G (by decide) rfl (by rw [tm_framesOf, up2_gr])) dX11_takesRest_100 (fun H locs hW hS => ?_)
              have hW : Wd g (up2 M1059 31 (M1059 20 15 : Int32).toNatClampNeg (1)) H := hW
              have h := letE h
              generalize up2 M1059 31 (M1059 20 15 : Int32).toNatClampNeg (1) = M1083 at hW h
              refine lv_aload_n hx hb dX11_takesRest_101 rfl (lv_at hl 1 rfl) ?_
              refine rGet (k := 16) C hW (by decide) tm_Model rfl inX11 (by decide) fl_X11_37 rfl dX11_takesRest_102 ?_
              refine lv_aload_n hx hb dX11_takesRest_105 rfl (lv_at hl 1 rfl) ?_
              refine rGet (k := 15) C hW (by decide) tm_Model rfl inX11 (by decide) fl_X11_200 rfl dX11_takesRest_106 ?_
              refine lv_aload_n hx hb dX11_takesRest_109 rfl (lv_at hl 1 rfl) ?_
              refine rGet (k := 20) C hW (by decide) tm_Model rfl inX11 (by decide) fl_X11_203 rfl dX11_takesRest_110 ?_
              have s1084 : vin (M1083 20 15) 6 := Classical.byContradiction fun q9 => by rw [if_neg q9] at h; cases h
              rw [if_pos s1084] at h
              refine rIst (M' := up2 M1083 30 (M1083 20 15 : Int32).toNatClampNeg (M1083 20 20)) C hW hS (by decide) tm_firstOf s1084 (UPD_G (by decide) rfl (by rw [tm_firstOf, up2_gr])) dX11_takesRest_113 (fun H locs hW hS => ?_)
              have hW : Wd g (up2 M1083 30 (M1083 20 15 : Int32).toNatClampNeg (M1083 20 20)) H := hW
              have h := letE h
              generalize up2 M1083 30 (M1083 20 15 : Int32).toNatClampNeg (M1083 20 20) = M1085 at hW h
              refine lv_iconst (v := 1) hx hb dX11_takesRest_114 (by decide) ?_
              cases h
              exact rZ C hr hlk dX11_takesRest_115 hW hS (nar01 (Or.inr rfl)) ⟨rfl, rfl, (Or.inr rfl)⟩
          · rw [if_neg c1058] at h
            refine lv_aload_n hx hb dX11_takesRest_55 rfl (lv_at hl 1 rfl) ?_
            refine lv_iload_n hx hb dX11_takesRest_56 rfl (lv_at hl 0 rfl) ?_
            refine lv_if_ge (tgt := 64) hx hb dX11_takesRest_57 (by decide) (fun c1086 => ?_) (fun c1086 => ?_)
            · rw [if_pos c1086] at h
              refine lv_iconst (v := 1) hx hb dX11_takesRest_64 (by decide) ?_
              obtain ⟨r1087, M1088, h1089, h⟩ := bind2 h
              refine cBack C.2.2.2.2.2.2.2.2 (runV (As := [.int (1)]) (rest := []) C hW hS (c_X11_fails l g M 1 _ _ h1089) kV_X11_fails ml_X11_194 (by decide) tm_Model rfl rfl rfl hl.1 rfl (Nat.le_of_ble_eq_true rfl) ⟨Nat.le_of_ble_eq_true rfl, Nat.le_of_ble_eq_true rfl⟩ ⟨Nat.zero_le _, Nat.zero_le _⟩ dX11_takesRest_65) hS (fun v0 w0 H locs hp hW hS => ?_)
              obtain ⟨rfl, rfl, zr1087⟩ := hp
              cases h
              exact rZ C hr hlk dX11_takesRest_68 hW hS (nar01 zr1087) ⟨rfl, rfl, zr1087⟩
            · rw [if_neg c1086] at h
              refine lv_iconst (v := 4) hx hb dX11_takesRest_60 (by decide) ?_
              refine lv_goto (tgt := 65) hx hb dX11_takesRest_61 (by decide) ?_
              obtain ⟨r1090, M1091, h1092, h⟩ := bind2 h
              refine cBack C.2.2.2.2.2.2.2.2 (runV (As := [.int (4)]) (rest := []) C hW hS (c_X11_fails l g M 4 _ _ h1092) kV_X11_fails ml_X11_194 (by decide) tm_Model rfl rfl rfl hl.1 rfl (Nat.le_of_ble_eq_true rfl) ⟨Nat.le_of_ble_eq_true rfl, Nat.le_of_ble_eq_true rfl⟩ ⟨Nat.zero_le _, Nat.zero_le _⟩ dX11_takesRest_65) hS (fun v0 w0 H locs hp hW hS => ?_)
              obtain ⟨rfl, rfl, zr1090⟩ := hp
              cases h
              exact rZ C hr hlk dX11_takesRest_68 hW hS (nar01 zr1090) ⟨rfl, rfl, zr1090⟩
set_option maxHeartbeats 4000000 in
set_option maxRecDepth 100000 in
theorem c_X11_takesRest (l : Launch) (g : GD) (M : MM)  (r : Int32) (M2 : MM) (h : f_X11_takesRest M  = some (r, M2)) : Met l yX11_takesRest (wm yX11_takesRest cX11_takesRest 3 (some .boolean)) (RM 1 21) (va_Pc [rf g (1697)] (WDp g M)) (QQ g (fun v w0 => v = .int r ∧ M2 = w0 ∧ (r = 0 ∨ r = 1))) 0 0 (AA g) := by
  refine mkM (by decide +kernel) (Nat.le_of_ble_eq_true rfl) ?_
  intro p e s m below meth c C hr hlk hW hS ls hl
  have hl : lv_has ls 3 [(0, rf g (1697))] := hl
  have hx := C.1
  have hb := C.2.1
  have hts := C.2.2.2.2.1
  unfold f_X11_takesRest at h
  exact t_X11_takesRest_0 l g    FU M  _ _ h C hr hlk _ _ hW hS ls (lv_sub hl [0] rfl)
def lp_X11_reads_37 (fu : Nat) (M : MM)  (z : Int32) : Option (Int32 × MM) := match fu with
  | 0 => none
  | n + 1 => (if (z : Int32) = 0 then some (1, M) else (if (M 20 18 : Int32) = (M 20 8 : Int32) then (bnd2 (f_X11_fails M 4) fun r1051 M1052 => some (r1051, M1052)) else (if vin (M 20 18) 60 then (if (M 27 (M 20 18 : Int32).toNatClampNeg : Int32) = (40 : Int32) then (if (1 : Int32) = 0 then none else (if (5 : Int32) ≤ (M 20 15 : Int32) then (bnd2 (f_X11_isDigit M (M 20 18)) fun r1024 M1025 => (if (r1024 : Int32) = 0 then (bnd2 (f_X11_fails M1025 1) fun r1037 M1038 => some (r1037, M1038)) else (bnd2 (f_X11_takesBell M1025 ) fun r1028 M1029 => (if (r1028 : Int32) = 0 then some (0, M1029) else (bnd2 (f_X11_takesRest M1029 ) fun r1032 M1033 => (if (r1032 : Int32) = 0 then some (0, M1033) else (if (M1033 20 15 : Int32) ≤ 0 then (lp_X11_reads_37 n M1033   0) else (lp_X11_reads_37 n M1033   1)))))))) else (letB (up2 M 20 15 ((M 20 15) + (1))) fun M1040 => (letB (up2 M1040 20 12 ((M1040 20 12) + (1))) fun M1041 => (if (M1041 20 15 : Int32) ≤ (M1041 20 13 : Int32) then (letB (up2 M1041 20 13 (M1041 20 13)) fun M1043 => (if vin (M1043 20 15) 6 then (letB (up2 M1043 31 (M1043 20 15 : Int32).toNatClampNeg (0)) fun M1045 => (letB (up2 M1045 20 18 ((M1045 20 18) + (1))) fun M1046 => (lp_X11_reads_37 n M1046   z))) else none)) else (letB (up2 M1041 20 13 (M1041 20 15)) fun M1047 => (if vin (M1047 20 15) 6 then (letB (up2 M1047 31 (M1047 20 15 : Int32).toNatClampNeg (0)) fun M1049 => (letB (up2 M1049 20 18 ((M1049 20 18) + (1))) fun M1050 => (lp_X11_reads_37 n M1050   z))) else none))))))) else (if (0 : Int32) = 0 then (bnd2 (f_X11_isDigit M (M 20 18)) fun r1006 M1007 => (if (r1006 : Int32) = 0 then (bnd2 (f_X11_fails M1007 1) fun r1019 M1020 => some (r1019, M1020)) else (bnd2 (f_X11_takesBell M1007 ) fun r1010 M1011 => (if (r1010 : Int32) = 0 then some (0, M1011) else (bnd2 (f_X11_takesRest M1011 ) fun r1014 M1015 => (if (r1014 : Int32) = 0 then some (0, M1015) else (if (M1015 20 15 : Int32) ≤ 0 then (lp_X11_reads_37 n M1015   0) else (lp_X11_reads_37 n M1015   1)))))))) else none)) else none)))
def f_X11_reads (M : MM)  : Option (Int32 × MM) := (letB (up2 M 20 18 (0)) fun M1 => (letB (up2 M1 20 19 (0)) fun M2 => (letB (up2 M2 20 11 (0)) fun M3 => (letB (up2 M3 20 12 (0)) fun M4 => (letB (up2 M4 20 13 (0)) fun M5 => (letB (up2 M5 20 14 (0)) fun M6 => (letB (up2 M6 20 15 (0)) fun M7 => (lp_X11_reads_37 FU M7   1))))))))
set_option maxHeartbeats 4000000 in
set_option maxRecDepth 100000 in
theorem t_X11_reads_37 (l : Launch) (g : GD) {p : Program} {e : Env} {s : State} {m : MethodId} {av : Array Value} {below : List Frame} {meth : Method} {c : Code}  (n : Nat) : ∀ (M : MM) (z : Int32) (r : Int32) (M2 : MM), lp_X11_reads_37 n M   z = some (r, M2) → CX p s m av c cX11_reads 3 RX11 g → meth.sig.returnType = (some .boolean) → meth.locks = false → ∀ (H : Heap) (locs : List Loc), Wd g M H → sS g s H locs → ∀ ls : Array Slot, lv_has ls 3 [(0, rf g (1697)), (1, .int (z))] → W p l e (RM 3 66) s m av below meth c H locs 0 0 (MQ below (QQ g (fun v w0 => v = .int r ∧ M2 = w0 ∧ (r = 0 ∨ r = 1))) av s 0 0 (AA g)) (F0 m 37 ls []) := by
  induction n with
  | zero => intro M z r M2 h; cases h
  | succ n ih0 =>
    intro M z r M2 h C hr hlk H locs hW hS ls hl
    have ih : ∀ (M : MM) (z : Int32), lp_X11_reads_37 n M   z = some (r, M2) → ∀ (H : Heap) (locs : List Loc), Wd g M H → sS g s H locs → ∀ ls : Array Slot, lv_has ls 3 [(0, rf g (1697)), (1, .int (z))] → W p l e (RM 3 66) s m av below meth c H locs 0 0 (MQ below (QQ g (fun v w0 => v = .int r ∧ M2 = w0 ∧ (r = 0 ∨ r = 1))) av s 0 0 (AA g)) (F0 m 37 ls []) := fun M z h H locs hW hS ls hl => ih0 M z r M2 h C hr hlk H locs hW hS ls hl
    unfold lp_X11_reads_37 at h
    try dsimp only at h
    have hx := C.1
    have hb := C.2.1
    have hts := C.2.2.2.2.1
    refine lv_iload_n hx hb dX11_reads_37 rfl (lv_at hl 1 rfl) ?_
    refine lv_if_eq (tgt := 208) hx hb dX11_reads_38 (by decide) (fun c1001 => ?_) (fun c1001 => ?_)
    · rw [if_pos c1001] at h
      refine lv_iconst (v := 1) hx hb dX11_reads_208 (by decide) ?_
      cases h
      exact rZ C hr hlk dX11_reads_209 hW hS (nar01 (Or.inr rfl)) ⟨rfl, rfl, (Or.inr rfl)⟩
    · rw [if_neg c1001] at h
      refine lv_aload_n hx hb dX11_reads_41 rfl (lv_at hl 0 rfl) ?_
      refine rGet (k := 18) C hW (by decide) tm_Model rfl inX11 (by decide) fl_X11_188 rfl dX11_reads_42 ?_
      refine lv_aload_n hx hb dX11_reads_45 rfl (lv_at hl 0 rfl) ?_
      refine rGet (k := 8) C hW (by decide) tm_Model rfl inX11 (by decide) fl_X11_182 rfl dX11_reads_46 ?_
      refine lv_icmp_ne (tgt := 58) hx hb dX11_reads_49 (by decide) (fun c1002 => ?_) (fun c1002 => ?_)
      · rw [if_neg c1002] at h
        refine lv_aload_n hx hb dX11_reads_58 rfl (lv_at hl 0 rfl) ?_
        refine rGet (k := 7) C hW (by decide) tm_Model rfl inX11 (by decide) fl_X11_28 rfl dX11_reads_59 ?_
        refine lv_aload_n hx hb dX11_reads_62 rfl (lv_at hl 0 rfl) ?_
        refine rGet (k := 18) C hW (by decide) tm_Model rfl inX11 (by decide) fl_X11_188 rfl dX11_reads_63 ?_
        have s1003 : vin (M 20 18) 60 := Classical.byContradiction fun q9 => by rw [if_neg q9] at h; cases h
        rw [if_pos s1003] at h
        refine rIld C hW (by decide) tm_mtext s1003 dX11_reads_66 ?_
        refine lv_bipush (v := 40) hx hb dX11_reads_67 (by decide) ?_
        refine lv_icmp_ne (tgt := 76) hx hb dX11_reads_69 (by decide) (fun c1004 => ?_) (fun c1004 => ?_)
        · rw [if_neg c1004] at h
          refine lv_iconst (v := 0) hx hb dX11_reads_76 (by decide) ?_
          refine lv_istore_n (lv' := [(2, .int (0)), (0, rf g (1697)), (1, .int (z))]) hx hb dX11_reads_77 rfl hl (by decide) rfl (fun ls hl => ?_)
          refine lv_iload_n hx hb dX11_reads_78 rfl (lv_at hl 0 rfl) ?_
          refine lv_if_eq (tgt := 159) hx hb dX11_reads_79 (by decide) (fun c1005 => ?_) (fun c1005 => ?_)
          · rw [if_pos c1005] at h
            refine lv_aload_n hx hb dX11_reads_159 rfl (lv_at hl 1 rfl) ?_
            refine lv_aload_n hx hb dX11_reads_160 rfl (lv_at hl 1 rfl) ?_
            refine rGet (k := 18) C hW (by decide) tm_Model rfl inX11 (by decide) fl_X11_188 rfl dX11_reads_161 ?_
            obtain ⟨r1006, M1007, h1008, h⟩ := bind2 h
            refine cBack C.2.2.2.2.2.2.2.2 (runV (As := [.int (M 20 18)]) (rest := []) C hW hS (c_X11_isDigit l g M (M 20 18) _ _ h1008) kV_X11_isDigit ml_X11_191 (by decide) tm_Model rfl rfl rfl hl.1 rfl (Nat.le_of_ble_eq_true rfl) ⟨Nat.le_of_ble_eq_true rfl, Nat.le_of_ble_eq_true rfl⟩ ⟨Nat.zero_le _, Nat.zero_le _⟩ dX11_reads_164) hS (fun v0 w0 H locs hp hW hS => ?_)
            obtain ⟨rfl, rfl, zr1006⟩ := hp
            refine lv_if_ne (tgt := 176) hx hb dX11_reads_167 (by decide) (fun c1009 => ?_) (fun c1009 => ?_)
            · rw [if_neg c1009] at h
              refine lv_aload_n hx hb dX11_reads_176 rfl (lv_at hl 1 rfl) ?_
              obtain ⟨r1010, M1011, h1012, h⟩ := bind2 h
              refine cBack C.2.2.2.2.2.2.2.2 (runV (As := []) (rest := []) C hW hS (c_X11_takesBell l g M1007  _ _ h1012) kV_X11_takesBell ml_X11_215 (by decide) tm_Model rfl rfl rfl hl.1 rfl (Nat.le_of_ble_eq_true rfl) ⟨Nat.le_of_ble_eq_true rfl, Nat.le_of_ble_eq_true rfl⟩ ⟨Nat.zero_le _, Nat.zero_le _⟩ dX11_reads_177) hS (fun v0 w0 H locs hp hW hS => ?_)
              obtain ⟨rfl, rfl, zr1010⟩ := hp
              refine lv_if_eq (tgt := 190) hx hb dX11_reads_180 (by decide) (fun c1013 => ?_) (fun c1013 => ?_)
              · rw [if_pos c1013] at h
                refine lv_iconst (v := 0) hx hb dX11_reads_190 (by decide) ?_
                cases h
                exact rZ C hr hlk dX11_reads_191 hW hS (nar01 (Or.inl rfl)) ⟨rfl, rfl, (Or.inl rfl)⟩
              · rw [if_neg c1013] at h
                refine lv_aload_n hx hb dX11_reads_183 rfl (lv_at hl 1 rfl) ?_
                obtain ⟨r1014, M1015, h1016, h⟩ := bind2 h
                refine cBack C.2.2.2.2.2.2.2.2 (runV (As := []) (rest := []) C hW hS (c_X11_takesRest l g M1011  _ _ h1016) kV_X11_takesRest ml_X11_219 (by decide) tm_Model rfl rfl rfl hl.1 rfl (Nat.le_of_ble_eq_true rfl) ⟨Nat.le_of_ble_eq_true rfl, Nat.le_of_ble_eq_true rfl⟩ ⟨Nat.zero_le _, Nat.zero_le _⟩ dX11_reads_184) hS (fun v0 w0 H locs hp hW hS => ?_)
                obtain ⟨rfl, rfl, zr1014⟩ := hp
                refine lv_if_ne (tgt := 192) hx hb dX11_reads_187 (by decide) (fun c1017 => ?_) (fun c1017 => ?_)
                · rw [if_neg c1017] at h
                  refine lv_aload_n hx hb dX11_reads_192 rfl (lv_at hl 1 rfl) ?_
                  refine rGet (k := 15) C hW (by decide) tm_Model rfl inX11 (by decide) fl_X11_200 rfl dX11_reads_193 ?_
                  refine lv_if_le (tgt := 203) hx hb dX11_reads_196 (by decide) (fun c1018 => ?_) (fun c1018 => ?_)
                  · rw [if_pos c1018] at h
                    refine lv_iconst (v := 0) hx hb dX11_reads_203 (by decide) ?_
                    refine lv_istore_n (lv' := [(1, .int (0)), (2, .int (0)), (0, rf g (1697))]) hx hb dX11_reads_204 rfl hl (by decide) rfl (fun ls hl => ?_)
                    refine lv_goto (tgt := 37) hx hb dX11_reads_205 (by decide) ?_
                    exact ih M1015 0 h _ _ hW hS ls (lv_sub hl [2, 0] rfl)
                  · rw [if_neg c1018] at h
                    refine lv_iconst (v := 1) hx hb dX11_reads_199 (by decide) ?_
                    refine lv_goto (tgt := 204) hx hb dX11_reads_200 (by decide) ?_
                    refine lv_istore_n (lv' := [(1, .int (1)), (2, .int (0)), (0, rf g (1697))]) hx hb dX11_reads_204 rfl hl (by decide) rfl (fun ls hl => ?_)
                    refine lv_goto (tgt := 37) hx hb dX11_reads_205 (by decide) ?_
                    exact ih M1015 1 h _ _ hW hS ls (lv_sub hl [2, 0] rfl)
                · rw [if_pos c1017] at h
                  refine lv_iconst (v := 0) hx hb dX11_reads_190 (by decide) ?_
                  cases h
                  exact rZ C hr hlk dX11_reads_191 hW hS (nar01 (Or.inl rfl)) ⟨rfl, rfl, (Or.inl rfl)⟩
            · rw [if_pos c1009] at h
              refine lv_aload_n hx hb dX11_reads_170 rfl (lv_at hl 1 rfl) ?_
              refine lv_iconst (v := 1) hx hb dX11_reads_171 (by decide) ?_
              obtain ⟨r1019, M1020, h1021, h⟩ := bind2 h
              refine cBack C.2.2.2.2.2.2.2.2 (runV (As := [.int (1)]) (rest := []) C hW hS (c_X11_fails l g M1007 1 _ _ h1021) kV_X11_fails ml_X11_194 (by decide) tm_Model rfl rfl rfl hl.1 rfl (Nat.le_of_ble_eq_true rfl) ⟨Nat.le_of_ble_eq_true rfl, Nat.le_of_ble_eq_true rfl⟩ ⟨Nat.zero_le _, Nat.zero_le _⟩ dX11_reads_172) hS (fun v0 w0 H locs hp hW hS => ?_)
              obtain ⟨rfl, rfl, zr1019⟩ := hp
              cases h
              exact rZ C hr hlk dX11_reads_175 hW hS (nar01 zr1019) ⟨rfl, rfl, zr1019⟩
          · rw [if_neg c1005] at h
            cases h
        · rw [if_pos c1004] at h
          refine lv_iconst (v := 1) hx hb dX11_reads_72 (by decide) ?_
          refine lv_goto (tgt := 77) hx hb dX11_reads_73 (by decide) ?_
          refine lv_istore_n (lv' := [(2, .int (1)), (0, rf g (1697)), (1, .int (z))]) hx hb dX11_reads_77 rfl hl (by decide) rfl (fun ls hl => ?_)
          refine lv_iload_n hx hb dX11_reads_78 rfl (lv_at hl 0 rfl) ?_
          refine lv_if_eq (tgt := 159) hx hb dX11_reads_79 (by decide) (fun c1022 => ?_) (fun c1022 => ?_)
          · rw [if_pos c1022] at h
            cases h
          · rw [if_neg c1022] at h
            refine lv_aload_n hx hb dX11_reads_82 rfl (lv_at hl 1 rfl) ?_
            refine rGet (k := 15) C hW (by decide) tm_Model rfl inX11 (by decide) fl_X11_200 rfl dX11_reads_83 ?_
            refine lv_iconst (v := 5) hx hb dX11_reads_86 (by decide) ?_
            refine lv_icmp_ge (tgt := 159) hx hb dX11_reads_87 (by decide) (fun c1023 => ?_) (fun c1023 => ?_)
            · rw [if_pos c1023] at h
              refine lv_aload_n hx hb dX11_reads_159 rfl (lv_at hl 1 rfl) ?_
              refine lv_aload_n hx hb dX11_reads_160 rfl (lv_at hl 1 rfl) ?_
              refine rGet (k := 18) C hW (by decide) tm_Model rfl inX11 (by decide) fl_X11_188 rfl dX11_reads_161 ?_
              obtain ⟨r1024, M1025, h1026, h⟩ := bind2 h
              refine cBack C.2.2.2.2.2.2.2.2 (runV (As := [.int (M 20 18)]) (rest := []) C hW hS (c_X11_isDigit l g M (M 20 18) _ _ h1026) kV_X11_isDigit ml_X11_191 (by decide) tm_Model rfl rfl rfl hl.1 rfl (Nat.le_of_ble_eq_true rfl) ⟨Nat.le_of_ble_eq_true rfl, Nat.le_of_ble_eq_true rfl⟩ ⟨Nat.zero_le _, Nat.zero_le _⟩ dX11_reads_164) hS (fun v0 w0 H locs hp hW hS => ?_)
              obtain ⟨rfl, rfl, zr1024⟩ := hp
              refine lv_if_ne (tgt := 176) hx hb dX11_reads_167 (by decide) (fun c1027 => ?_) (fun c1027 => ?_)
              · rw [if_neg c1027] at h
                refine lv_aload_n hx hb dX11_reads_176 rfl (lv_at hl 1 rfl) ?_
                obtain ⟨r1028, M1029, h1030, h⟩ := bind2 h
                refine cBack C.2.2.2.2.2.2.2.2 (runV (As := []) (rest := []) C hW hS (c_X11_takesBell l g M1025  _ _ h1030) kV_X11_takesBell ml_X11_215 (by decide) tm_Model rfl rfl rfl hl.1 rfl (Nat.le_of_ble_eq_true rfl) ⟨Nat.le_of_ble_eq_true rfl, Nat.le_of_ble_eq_true rfl⟩ ⟨Nat.zero_le _, Nat.zero_le _⟩ dX11_reads_177) hS (fun v0 w0 H locs hp hW hS => ?_)
                obtain ⟨rfl, rfl, zr1028⟩ := hp
                refine lv_if_eq (tgt := 190) hx hb dX11_reads_180 (by decide) (fun c1031 => ?_) (fun c1031 => ?_)
                · rw [if_pos c1031] at h
                  refine lv_iconst (v := 0) hx hb dX11_reads_190 (by decide) ?_
                  cases h
                  exact rZ C hr hlk dX11_reads_191 hW hS (nar01 (Or.inl rfl)) ⟨rfl, rfl, (Or.inl rfl)⟩
                · rw [if_neg c1031] at h
                  refine lv_aload_n hx hb dX11_reads_183 rfl (lv_at hl 1 rfl) ?_
                  obtain ⟨r1032, M1033, h1034, h⟩ := bind2 h
                  refine cBack C.2.2.2.2.2.2.2.2 (runV (As := []) (rest := []) C hW hS (c_X11_takesRest l g M1029  _ _ h1034) kV_X11_takesRest ml_X11_219 (by decide) tm_Model rfl rfl rfl hl.1 rfl (Nat.le_of_ble_eq_true rfl) ⟨Nat.le_of_ble_eq_true rfl, Nat.le_of_ble_eq_true rfl⟩ ⟨Nat.zero_le _, Nat.zero_le _⟩ dX11_reads_184) hS (fun v0 w0 H locs hp hW hS => ?_)
                  obtain ⟨rfl, rfl, zr1032⟩ := hp
                  refine lv_if_ne (tgt := 192) hx hb dX11_reads_187 (by decide) (fun c1035 => ?_) (fun c1035 => ?_)
                  · rw [if_neg c1035] at h
                    refine lv_aload_n hx hb dX11_reads_192 rfl (lv_at hl 1 rfl) ?_
                    refine rGet (k := 15) C hW (by decide) tm_Model rfl inX11 (by decide) fl_X11_200 rfl dX11_reads_193 ?_
                    refine lv_if_le (tgt := 203) hx hb dX11_reads_196 (by decide) (fun c1036 => ?_) (fun c1036 => ?_)
                    · rw [if_pos c1036] at h
                      refine lv_iconst (v := 0) hx hb dX11_reads_203 (by decide) ?_
                      refine lv_istore_n (lv' := [(1, .int (0)), (2, .int (1)), (0, rf g (1697))]) hx hb dX11_reads_204 rfl hl (by decide) rfl (fun ls hl => ?_)
                      refine lv_goto (tgt := 37) hx hb dX11_reads_205 (by decide) ?_
                      exact ih M1033 0 h _ _ hW hS ls (lv_sub hl [2, 0] rfl)
                    · rw [if_neg c1036] at h
                      refine lv_iconst (v := 1) hx hb dX11_reads_199 (by decide) ?_
                      refine lv_goto (tgt := 204) hx hb dX11_reads_200 (by decide) ?_
                      refine lv_istore_n (lv' := [(1, .int (1)), (2, .int (1)), (0, rf g (1697))]) hx hb dX11_reads_204 rfl hl (by decide) rfl (fun ls hl => ?_)
                      refine lv_goto (tgt := 37) hx hb dX11_reads_205 (by decide) ?_
                      exact ih M1033 1 h _ _ hW hS ls (lv_sub hl [2, 0] rfl)
                  · rw [if_pos c1035] at h
                    refine lv_iconst (v := 0) hx hb dX11_reads_190 (by decide) ?_
                    cases h
                    exact rZ C hr hlk dX11_reads_191 hW hS (nar01 (Or.inl rfl)) ⟨rfl, rfl, (Or.inl rfl)⟩
              · rw [if_pos c1027] at h
                refine lv_aload_n hx hb dX11_reads_170 rfl (lv_at hl 1 rfl) ?_
                refine lv_iconst (v := 1) hx hb dX11_reads_171 (by decide) ?_
                obtain ⟨r1037, M1038, h1039, h⟩ := bind2 h
                refine cBack C.2.2.2.2.2.2.2.2 (runV (As := [.int (1)]) (rest := []) C hW hS (c_X11_fails l g M1025 1 _ _ h1039) kV_X11_fails ml_X11_194 (by decide) tm_Model rfl rfl rfl hl.1 rfl (Nat.le_of_ble_eq_true rfl) ⟨Nat.le_of_ble_eq_true rfl, Nat.le_of_ble_eq_true rfl⟩ ⟨Nat.zero_le _, Nat.zero_le _⟩ dX11_reads_172) hS (fun v0 w0 H locs hp hW hS => ?_)
                obtain ⟨rfl, rfl, zr1037⟩ := hp
                cases h
                exact rZ C hr hlk dX11_reads_175 hW hS (nar01 zr1037) ⟨rfl, rfl, zr1037⟩
            · rw [if_neg c1023] at h
              refine lv_aload_n hx hb dX11_reads_90 rfl (lv_at hl 1 rfl) ?_
              refine lv_dup hx hb dX11_reads_91 rfl ?_
              refine rGet (k := 15) C hW (by decide) tm_Model rfl inX11 (by decide) fl_X11_200 rfl dX11_reads_92 ?_
              refine lv_iconst (v := 1) hx hb dX11_reads_95 (by decide) ?_
              refine lv_iadd hx hb dX11_reads_96 ?_
              refine rPut (k := 15) C hW hS (by decide) tm_Model rfl inX11 tyX11_ok nmX11 (by decide) fl_X11_200 rfl (by decide +kernel) (Nat.le_of_ble_eq_true rfl) (upd_Model_open _) dX11_reads_97 (fun H locs hW hS => ?_)
              have hW : Wd g (up2 M 20 15 ((M 20 15) + (1))) H := hW
              have h := letE h
              generalize up2 M 20 15 ((M 20 15) + (1)) = M1040 at hW h
              refine lv_aload_n hx hb dX11_reads_100 rfl (lv_at hl 1 rfl) ?_
              refine lv_dup hx hb dX11_reads_101 rfl ?_
              refine rGet (k := 12) C hW (by decide) tm_Model rfl inX11 (by decide) fl_X11_209 rfl dX11_reads_102 ?_
              refine lv_iconst (v := 1) hx hb dX11_reads_105 (by decide) ?_
              refine lv_iadd hx hb dX11_reads_106 ?_
              refine rPut (k := 12) C hW hS (by decide) tm_Model rfl inX11 tyX11_ok nmX11 (by decide) fl_X11_209 rfl (by decide +kernel) (Nat.le_of_ble_eq_true rfl) (upd_Model_beams _) dX11_reads_107 (fun H locs hW hS => ?_)
              have hW : Wd g (up2 M1040 20 12 ((M1040 20 12) + (1))) H := hW
              have h := letE h
              generalize up2 M1040 20 12 ((M1040 20 12) + (1)) = M1041 at hW h
              refine lv_aload_n hx hb dX11_reads_110 rfl (lv_at hl 1 rfl) ?_
              refine lv_aload_n hx hb dX11_reads_111 rfl (lv_at hl 1 rfl) ?_
              refine rGet (k := 15) C hW (by decide) tm_Model rfl inX11 (by decide) fl_X11_200 rfl dX11_reads_112 ?_
              refine lv_aload_n hx hb dX11_reads_115 rfl (lv_at hl 1 rfl) ?_
              refine rGet (k := 13) C hW (by decide) tm_Model rfl inX11 (by decide) fl_X11_212 rfl dX11_reads_116 ?_
              refine lv_icmp_le (tgt := 129) hx hb dX11_reads_119 (by decide) (fun c1042 => ?_) (fun c1042 => ?_)
              · rw [if_pos c1042] at h
                refine lv_aload_n hx hb dX11_reads_129 rfl (lv_at hl 1 rfl) ?_
                refine rGet (k := 13) C hW (by decide) tm_Model rfl inX11 (by decide) fl_X11_212 rfl dX11_reads_130 ?_
                refine rPut (k := 13) C hW hS (by decide) tm_Model rfl inX11 tyX11_ok nmX11 (by decide) fl_X11_212 rfl (by decide +kernel) (Nat.le_of_ble_eq_true rfl) (upd_Model_deepest _) dX11_reads_133 (fun H locs hW hS => ?_)
                have hW : Wd g (up2 M1041 20 13 (M1041 20 13)) H := hW
                have h := letE h
                generalize up2 M1041 20 13 (M1041 20 13) = M1043 at hW h
                refine lv_aload_n hx hb dX11_reads_136 rfl (lv_at hl 1 rfl) ?_
                refine rGet (k := 17) C hW (by decide) tm_Model rfl inX11 (by decide) fl_X11_40 rfl dX11_reads_137 ?_
                refine lv_aload_n hx hb dX11_reads_140 rfl (lv_at hl 1 rfl) ?_
                refine rGet (k := 15) C hW (by decide) tm_Model rfl inX11 (by decide) fl_X11_200 rfl dX11_reads_141 ?_
                refine lv_iconst (v := 0) hx hb dX11_reads_144 (by decide) ?_
                have s1044 : vin (M1043 20 15) 6 := Classical.byContradiction fun q9 => by rw [if_neg q9] at h; cases h
                rw [if_pos s1044] at h
                refine rIst (M' := up2 M1043 31 (M1043 20 15 : Int32).toNatClampNeg (0)) C hW hS (by decide) tm_framesOf s1044 (UPD_G (by decide) rfl (by rw [tm_framesOf, up2_gr])) dX11_reads_145 (fun H locs hW hS => ?_)
                have hW : Wd g (up2 M1043 31 (M1043 20 15 : Int32).toNatClampNeg (0)) H := hW
                have h := letE h
                generalize up2 M1043 31 (M1043 20 15 : Int32).toNatClampNeg (0) = M1045 at hW h
                refine lv_aload_n hx hb dX11_reads_146 rfl (lv_at hl 1 rfl) ?_
                refine lv_dup hx hb dX11_reads_147 rfl ?_
                refine rGet (k := 18) C hW (by decide) tm_Model rfl inX11 (by decide) fl_X11_188 rfl dX11_reads_148 ?_
                refine lv_iconst (v := 1) hx hb dX11_reads_151 (by decide) ?_
                refine lv_iadd hx hb dX11_reads_152 ?_
                refine rPut (k := 18) C hW hS (by decide) tm_Model rfl inX11 tyX11_ok nmX11 (by decide) fl_X11_188 rfl (by decide +kernel) (Nat.le_of_ble_eq_true rfl) (upd_Model_at _) dX11_reads_153 (fun H locs hW hS => ?_)
                have hW : Wd g (up2 M1045 20 18 ((M1045 20 18) + (1))) H := hW
                have h := letE h
                generalize up2 M1045 20 18 ((M1045 20 18) + (1)) = M1046 at hW h
                refine lv_goto (tgt := 205) hx hb dX11_reads_156 (by decide) ?_
                refine lv_goto (tgt := 37) hx hb dX11_reads_205 (by decide) ?_
                exact ih M1046 z h _ _ hW hS ls (lv_sub hl [1, 2] rfl)
              · rw [if_neg c1042] at h
                refine lv_aload_n hx hb dX11_reads_122 rfl (lv_at hl 1 rfl) ?_
                refine rGet (k := 15) C hW (by decide) tm_Model rfl inX11 (by decide) fl_X11_200 rfl dX11_reads_123 ?_
                refine lv_goto (tgt := 133) hx hb dX11_reads_126 (by decide) ?_
                refine rPut (k := 13) C hW hS (by decide) tm_Model rfl inX11 tyX11_ok nmX11 (by decide) fl_X11_212 rfl (by decide +kernel) (Nat.le_of_ble_eq_true rfl) (upd_Model_deepest _) dX11_reads_133 (fun H locs hW hS => ?_)
                have hW : Wd g (up2 M1041 20 13 (M1041 20 15)) H := hW
                have h := letE h
                generalize up2 M1041 20 13 (M1041 20 15) = M1047 at hW h
                refine lv_aload_n hx hb dX11_reads_136 rfl (lv_at hl 1 rfl) ?_
                refine rGet (k := 17) C hW (by decide) tm_Model rfl inX11 (by decide) fl_X11_40 rfl dX11_reads_137 ?_
                refine lv_aload_n hx hb dX11_reads_140 rfl (lv_at hl 1 rfl) ?_
                refine rGet (k := 15) C hW (by decide) tm_Model rfl inX11 (by decide) fl_X11_200 rfl dX11_reads_141 ?_
                refine lv_iconst (v := 0) hx hb dX11_reads_144 (by decide) ?_
                have s1048 : vin (M1047 20 15) 6 := Classical.byContradiction fun q9 => by rw [if_neg q9] at h; cases h
                rw [if_pos s1048] at h
                refine rIst (M' := up2 M1047 31 (M1047 20 15 : Int32).toNatClampNeg (0)) C hW hS (by decide) tm_framesOf s1048 (UPD_G (by decide) rfl (by rw [tm_framesOf, up2_gr])) dX11_reads_145 (fun H locs hW hS => ?_)
                have hW : Wd g (up2 M1047 31 (M1047 20 15 : Int32).toNatClampNeg (0)) H := hW
                have h := letE h
                generalize up2 M1047 31 (M1047 20 15 : Int32).toNatClampNeg (0) = M1049 at hW h
                refine lv_aload_n hx hb dX11_reads_146 rfl (lv_at hl 1 rfl) ?_
                refine lv_dup hx hb dX11_reads_147 rfl ?_
                refine rGet (k := 18) C hW (by decide) tm_Model rfl inX11 (by decide) fl_X11_188 rfl dX11_reads_148 ?_
                refine lv_iconst (v := 1) hx hb dX11_reads_151 (by decide) ?_
                refine lv_iadd hx hb dX11_reads_152 ?_
                refine rPut (k := 18) C hW hS (by decide) tm_Model rfl inX11 tyX11_ok nmX11 (by decide) fl_X11_188 rfl (by decide +kernel) (Nat.le_of_ble_eq_true rfl) (upd_Model_at _) dX11_reads_153 (fun H locs hW hS => ?_)
                have hW : Wd g (up2 M1049 20 18 ((M1049 20 18) + (1))) H := hW
                have h := letE h
                generalize up2 M1049 20 18 ((M1049 20 18) + (1)) = M1050 at hW h
                refine lv_goto (tgt := 205) hx hb dX11_reads_156 (by decide) ?_
                refine lv_goto (tgt := 37) hx hb dX11_reads_205 (by decide) ?_
                exact ih M1050 z h _ _ hW hS ls (lv_sub hl [1, 2] rfl)
      · rw [if_pos c1002] at h
        refine lv_aload_n hx hb dX11_reads_52 rfl (lv_at hl 0 rfl) ?_
        refine lv_iconst (v := 4) hx hb dX11_reads_53 (by decide) ?_
        obtain ⟨r1051, M1052, h1053, h⟩ := bind2 h
        refine cBack C.2.2.2.2.2.2.2.2 (runV (As := [.int (4)]) (rest := []) C hW hS (c_X11_fails l g M 4 _ _ h1053) kV_X11_fails ml_X11_194 (by decide) tm_Model rfl rfl rfl hl.1 rfl (Nat.le_of_ble_eq_true rfl) ⟨Nat.le_of_ble_eq_true rfl, Nat.le_of_ble_eq_true rfl⟩ ⟨Nat.zero_le _, Nat.zero_le _⟩ dX11_reads_54) hS (fun v0 w0 H locs hp hW hS => ?_)
        obtain ⟨rfl, rfl, zr1051⟩ := hp
        cases h
        exact rZ C hr hlk dX11_reads_57 hW hS (nar01 zr1051) ⟨rfl, rfl, zr1051⟩
set_option maxHeartbeats 4000000 in
set_option maxRecDepth 100000 in
theorem c_X11_reads (l : Launch) (g : GD) (M : MM)  (r : Int32) (M2 : MM) (h : f_X11_reads M  = some (r, M2)) : Met l yX11_reads (wm yX11_reads cX11_reads 3 (some .boolean)) (RM 3 66) (va_Pc [rf g (1697)] (WDp g M)) (QQ g (fun v w0 => v = .int r ∧ M2 = w0 ∧ (r = 0 ∨ r = 1))) 0 0 (AA g) := by
  refine mkM (by decide +kernel) (Nat.le_of_ble_eq_true rfl) ?_
  intro p e s m below meth c C hr hlk hW hS ls hl
  have hl : lv_has ls 3 [(0, rf g (1697))] := hl
  have hx := C.1
  have hb := C.2.1
  have hts := C.2.2.2.2.1
  unfold f_X11_reads at h
  refine lv_aload_n hx hb dX11_reads_0 rfl (lv_at hl 0 rfl) ?_
  refine lv_iconst (v := 0) hx hb dX11_reads_1 (by decide) ?_
  refine rPut (k := 18) C hW hS (by decide) tm_Model rfl inX11 tyX11_ok nmX11 (by decide) fl_X11_188 rfl (by decide +kernel) (Nat.le_of_ble_eq_true rfl) (upd_Model_at _) dX11_reads_2 (fun H locs hW hS => ?_)
  have hW : Wd g (up2 M 20 18 (0)) H := hW
  have h := letE h
  generalize up2 M 20 18 (0) = M1 at hW h
  refine lv_aload_n hx hb dX11_reads_5 rfl (lv_at hl 0 rfl) ?_
  refine lv_iconst (v := 0) hx hb dX11_reads_6 (by decide) ?_
  refine rPut (k := 19) C hW hS (by decide) tm_Model rfl inX11 tyX11_ok nmX11 (by decide) fl_X11_185 rfl (by decide +kernel) (Nat.le_of_ble_eq_true rfl) (upd_Model_reason _) dX11_reads_7 (fun H locs hW hS => ?_)
  have hW : Wd g (up2 M1 20 19 (0)) H := hW
  have h := letE h
  generalize up2 M1 20 19 (0) = M2 at hW h
  refine lv_aload_n hx hb dX11_reads_10 rfl (lv_at hl 0 rfl) ?_
  refine lv_iconst (v := 0) hx hb dX11_reads_11 (by decide) ?_
  refine rPut (k := 11) C hW hS (by decide) tm_Model rfl inX11 tyX11_ok nmX11 (by decide) fl_X11_197 rfl (by decide +kernel) (Nat.le_of_ble_eq_true rfl) (upd_Model_many _) dX11_reads_12 (fun H locs hW hS => ?_)
  have hW : Wd g (up2 M2 20 11 (0)) H := hW
  have h := letE h
  generalize up2 M2 20 11 (0) = M3 at hW h
  refine lv_aload_n hx hb dX11_reads_15 rfl (lv_at hl 0 rfl) ?_
  refine lv_iconst (v := 0) hx hb dX11_reads_16 (by decide) ?_
  refine rPut (k := 12) C hW hS (by decide) tm_Model rfl inX11 tyX11_ok nmX11 (by decide) fl_X11_209 rfl (by decide +kernel) (Nat.le_of_ble_eq_true rfl) (upd_Model_beams _) dX11_reads_17 (fun H locs hW hS => ?_)
  have hW : Wd g (up2 M3 20 12 (0)) H := hW
  have h := letE h
  generalize up2 M3 20 12 (0) = M4 at hW h
  refine lv_aload_n hx hb dX11_reads_20 rfl (lv_at hl 0 rfl) ?_
  refine lv_iconst (v := 0) hx hb dX11_reads_21 (by decide) ?_
  refine rPut (k := 13) C hW hS (by decide) tm_Model rfl inX11 tyX11_ok nmX11 (by decide) fl_X11_212 rfl (by decide +kernel) (Nat.le_of_ble_eq_true rfl) (upd_Model_deepest _) dX11_reads_22 (fun H locs hW hS => ?_)
  have hW : Wd g (up2 M4 20 13 (0)) H := hW
  have h := letE h
  generalize up2 M4 20 13 (0) = M5 at hW h
  refine lv_aload_n hx hb dX11_reads_25 rfl (lv_at hl 0 rfl) ?_
  refine lv_iconst (v := 0) hx hb dX11_reads_26 (by decide) ?_
  refine rPut (k := 14) C hW hS (by decide) tm_Model rfl inX11 tyX11_ok nmX11 (by decide) fl_X11_206 rfl (by decide +kernel) (Nat.le_of_ble_eq_true rfl) (upd_Model_slant _) dX11_reads_27 (fun H locs hW hS => ?_)
  have hW : Wd g (up2 M5 20 14 (0)) H := hW
  have h := letE h
  generalize up2 M5 20 14 (0) = M6 at hW h
  refine lv_aload_n hx hb dX11_reads_30 rfl (lv_at hl 0 rfl) ?_
  refine lv_iconst (v := 0) hx hb dX11_reads_31 (by decide) ?_
  refine rPut (k := 15) C hW hS (by decide) tm_Model rfl inX11 tyX11_ok nmX11 (by decide) fl_X11_200 rfl (by decide +kernel) (Nat.le_of_ble_eq_true rfl) (upd_Model_open _) dX11_reads_32 (fun H locs hW hS => ?_)
  have hW : Wd g (up2 M6 20 15 (0)) H := hW
  have h := letE h
  generalize up2 M6 20 15 (0) = M7 at hW h
  refine lv_iconst (v := 1) hx hb dX11_reads_35 (by decide) ?_
  refine lv_istore_n (lv' := [(1, .int (1)), (0, rf g (1697))]) hx hb dX11_reads_36 rfl hl (by decide) rfl (fun ls hl => ?_)
  exact t_X11_reads_37 l g    FU M7 1 _ _ h C hr hlk _ _ hW hS ls (lv_sub hl [1, 0] rfl)
def f_X11_fault (M : MM) (x : Int32) : Option (Int32 × MM) := (bnd2 (f_X11_in M x 0 1) fun r1 M2 => (if (r1 : Int32) = 0 then some (-1, M2) else (bnd2 (f_X11_reads M2 ) fun r5 M6 => (if (r5 : Int32) = 0 then (if (x : Int32) = 0 then some (M6 20 18, M6) else some (M6 20 19, M6)) else some (-4, M6)))))
set_option maxHeartbeats 4000000 in
set_option maxRecDepth 100000 in
theorem c_X11_fault (l : Launch) (g : GD) (M : MM) (x : Int32) (r : Int32) (M2 : MM) (h : f_X11_fault M x = some (r, M2)) : Met l yX11_fault (wm yX11_fault cX11_fault 2 (some .int)) (RM 4 88) (va_Pc [rf g (1697), .int (x)] (WDp g M)) (QQ g (fun v w0 => v = .int r ∧ M2 = w0)) 0 0 (AA g) := by
  refine mkM (by decide +kernel) (Nat.le_of_ble_eq_true rfl) ?_
  intro p e s m below meth c C hr hlk hW hS ls hl
  have hl : lv_has ls 2 [(0, rf g (1697)), (1, .int (x))] := hl
  have hx := C.1
  have hb := C.2.1
  have hts := C.2.2.2.2.1
  unfold f_X11_fault at h
  refine lv_iload_n hx hb dX11_fault_0 rfl (lv_at hl 1 rfl) ?_
  refine lv_iconst (v := 0) hx hb dX11_fault_1 (by decide) ?_
  refine lv_iconst (v := 1) hx hb dX11_fault_2 (by decide) ?_
  obtain ⟨r1, M2, h3, h⟩ := bind2 h
  refine cBack C.2.2.2.2.2.2.2.2 (runS (As := [.int (x), .int (0), .int (1)]) (rest := []) C hW hS (c_X11_in l g M x 0 1 _ _ h3) kS_X11_in ml_X11_68 rfl hl.1 rfl (Nat.le_of_ble_eq_true rfl) ⟨Nat.le_of_ble_eq_true rfl, Nat.le_of_ble_eq_true rfl⟩ ⟨Nat.zero_le _, Nat.zero_le _⟩ dX11_fault_3) hS (fun v0 w0 H locs hp hW hS => ?_)
  obtain ⟨rfl, rfl, zr1⟩ := hp
  refine lv_if_ne (tgt := 11) hx hb dX11_fault_6 (by decide) (fun c4 => ?_) (fun c4 => ?_)
  · rw [if_neg c4] at h
    refine lv_aload_n hx hb dX11_fault_11 rfl (lv_at hl 0 rfl) ?_
    obtain ⟨r5, M6, h7, h⟩ := bind2 h
    refine cBack C.2.2.2.2.2.2.2.2 (runV (As := []) (rest := []) C hW hS (c_X11_reads l g M2  _ _ h7) kV_X11_reads ml_X11_222 (by decide) tm_Model rfl rfl rfl hl.1 rfl (Nat.le_of_ble_eq_true rfl) ⟨Nat.le_of_ble_eq_true rfl, Nat.le_of_ble_eq_true rfl⟩ ⟨Nat.zero_le _, Nat.zero_le _⟩ dX11_fault_12) hS (fun v0 w0 H locs hp hW hS => ?_)
    obtain ⟨rfl, rfl, zr5⟩ := hp
    refine lv_if_eq (tgt := 23) hx hb dX11_fault_15 (by decide) (fun c8 => ?_) (fun c8 => ?_)
    · rw [if_pos c8] at h
      refine lv_iload_n hx hb dX11_fault_23 rfl (lv_at hl 1 rfl) ?_
      refine lv_if_ne (tgt := 34) hx hb dX11_fault_24 (by decide) (fun c9 => ?_) (fun c9 => ?_)
      · rw [if_neg c9] at h
        refine lv_aload_n hx hb dX11_fault_34 rfl (lv_at hl 0 rfl) ?_
        refine rGet (k := 19) C hW (by decide) tm_Model rfl inX11 (by decide) fl_X11_185 rfl dX11_fault_35 ?_
        cases h
        exact rI C hr hlk dX11_fault_38 hW hS ⟨rfl, rfl⟩
      · rw [if_pos c9] at h
        refine lv_aload_n hx hb dX11_fault_27 rfl (lv_at hl 0 rfl) ?_
        refine rGet (k := 18) C hW (by decide) tm_Model rfl inX11 (by decide) fl_X11_188 rfl dX11_fault_28 ?_
        refine lv_goto (tgt := 38) hx hb dX11_fault_31 (by decide) ?_
        cases h
        exact rI C hr hlk dX11_fault_38 hW hS ⟨rfl, rfl⟩
    · rw [if_neg c8] at h
      refine lv_bipush (v := -4) hx hb dX11_fault_18 (by decide) ?_
      refine lv_goto (tgt := 38) hx hb dX11_fault_20 (by decide) ?_
      cases h
      exact rI C hr hlk dX11_fault_38 hW hS ⟨rfl, rfl⟩
  · rw [if_pos c4] at h
    refine lv_iconst (v := -1) hx hb dX11_fault_9 (by decide) ?_
    cases h
    exact rI C hr hlk dX11_fault_10 hW hS ⟨rfl, rfl⟩
def lp_X11_added_14 (fu : Nat) (M : MM)  (x : Int32) (y : Int32) (u : Int32) (z : Int32) : Option (Int32 × MM) := match fu with
  | 0 => none
  | n + 1 => (if (M 20 11 : Int32) ≤ (z : Int32) then (if (x : Int32) = 0 then none else some ((((((y) + (x)) - (1)) / (x)) * (x)) - (u), M)) else (if vin (z) 30 then (bnd2 (f_X11_atBell M (M 28 (z : Int32).toNatClampNeg)) fun r1004 M1005 => (bnd2 (f_X11_weight M1005 r1004) fun r1007 M1008 => (if vin (z) 30 then (if ((r1007) <<< ((M1008 29 (z : Int32).toNatClampNeg) &&& 31) : Int32) ≤ (y : Int32) then (lp_X11_added_14 n M1008   x y ((u) + (r1007)) (z + 1)) else (if vin (z) 30 then (lp_X11_added_14 n M1008   x ((r1007) <<< ((M1008 29 (z : Int32).toNatClampNeg) &&& 31)) ((u) + (r1007)) (z + 1)) else none)) else none))) else none))
def f_X11_added (M : MM)  : Option (Int32 × MM) := (lp_X11_added_14 FU M   ((1) <<< ((M 20 13) &&& 31)) 0 0 0)
set_option maxHeartbeats 4000000 in
set_option maxRecDepth 100000 in
theorem t_X11_added_14 (l : Launch) (g : GD) {p : Program} {e : Env} {s : State} {m : MethodId} {av : Array Value} {below : List Frame} {meth : Method} {c : Code}  (n : Nat) : ∀ (M : MM) (x : Int32) (y : Int32) (u : Int32) (z : Int32) (r : Int32) (M2 : MM), lp_X11_added_14 n M   x y u z = some (r, M2) → CX p s m av c cX11_added 6 RX11 g → meth.sig.returnType = (some .int) → meth.locks = false → ∀ (H : Heap) (locs : List Loc), Wd g M H → sS g s H locs → ∀ ls : Array Slot, lv_has ls 6 [(0, rf g (1697)), (1, .int (x)), (2, .int (y)), (3, .int (u)), (4, .int (z))] → W p l e (RM 1 21) s m av below meth c H locs 0 0 (MQ below (QQ g (fun v w0 => v = .int r ∧ M2 = w0)) av s 0 0 (AA g)) (F0 m 14 ls []) := by
  induction n with
  | zero => intro M x y u z r M2 h; cases h
  | succ n ih0 =>
    intro M x y u z r M2 h C hr hlk H locs hW hS ls hl
    have ih : ∀ (M : MM) (x : Int32) (y : Int32) (u : Int32) (z : Int32), lp_X11_added_14 n M   x y u z = some (r, M2) → ∀ (H : Heap) (locs : List Loc), Wd g M H → sS g s H locs → ∀ ls : Array Slot, lv_has ls 6 [(0, rf g (1697)), (1, .int (x)), (2, .int (y)), (3, .int (u)), (4, .int (z))] → W p l e (RM 1 21) s m av below meth c H locs 0 0 (MQ below (QQ g (fun v w0 => v = .int r ∧ M2 = w0)) av s 0 0 (AA g)) (F0 m 14 ls []) := fun M x y u z h H locs hW hS ls hl => ih0 M x y u z r M2 h C hr hlk H locs hW hS ls hl
    unfold lp_X11_added_14 at h
    try dsimp only at h
    have hx := C.1
    have hb := C.2.1
    have hts := C.2.2.2.2.1
    refine lv_iload hx hb dX11_added_14 (lv_at hl 4 rfl) ?_
    refine lv_aload_n hx hb dX11_added_16 rfl (lv_at hl 0 rfl) ?_
    refine rGet (k := 11) C hW (by decide) tm_Model rfl inX11 (by decide) fl_X11_197 rfl dX11_added_17 ?_
    refine lv_icmp_ge (tgt := 79) hx hb dX11_added_20 (by decide) (fun c1001 => ?_) (fun c1001 => ?_)
    · rw [if_pos c1001] at h
      refine lv_iload_n hx hb dX11_added_79 rfl (lv_at hl 2 rfl) ?_
      refine lv_iload_n hx hb dX11_added_80 rfl (lv_at hl 1 rfl) ?_
      refine lv_iadd hx hb dX11_added_81 ?_
      refine lv_iconst (v := 1) hx hb dX11_added_82 (by decide) ?_
      refine lv_isub hx hb dX11_added_83 ?_
      refine lv_iload_n hx hb dX11_added_84 rfl (lv_at hl 1 rfl) ?_
      have s1002 : ¬ ((x : Int32) = 0) := fun q9 => by rw [if_pos q9] at h; cases h
      rw [if_neg s1002] at h
      refine lv_idiv hx hb dX11_added_85 s1002 ?_
      refine lv_iload_n hx hb dX11_added_86 rfl (lv_at hl 1 rfl) ?_
      refine lv_imul hx hb dX11_added_87 ?_
      refine lv_iload_n hx hb dX11_added_88 rfl (lv_at hl 3 rfl) ?_
      refine lv_isub hx hb dX11_added_89 ?_
      cases h
      exact rI C hr hlk dX11_added_90 hW hS ⟨rfl, rfl⟩
    · rw [if_neg c1001] at h
      refine lv_aload_n hx hb dX11_added_23 rfl (lv_at hl 0 rfl) ?_
      refine lv_aload_n hx hb dX11_added_24 rfl (lv_at hl 0 rfl) ?_
      refine rGet (k := 9) C hW (by decide) tm_Model rfl inX11 (by decide) fl_X11_31 rfl dX11_added_25 ?_
      refine lv_iload hx hb dX11_added_28 (lv_at hl 4 rfl) ?_
      have s1003 : vin (z) 30 := Classical.byContradiction fun q9 => by rw [if_neg q9] at h; cases h
      rw [if_pos s1003] at h
      refine rIld C hW (by decide) tm_mhangs s1003 dX11_added_30 ?_
      obtain ⟨r1004, M1005, h1006, h⟩ := bind2 h
      refine cBack C.2.2.2.2.2.2.2.2 (runS (As := [.int (M 28 (z : Int32).toNatClampNeg)]) (rest := [rf g (1697)]) C hW hS (c_X11_atBell l g M (M 28 (z : Int32).toNatClampNeg) _ _ h1006) kS_X11_atBell ml_X11_129 rfl hl.1 rfl (Nat.le_of_ble_eq_true rfl) ⟨Nat.le_of_ble_eq_true rfl, Nat.le_of_ble_eq_true rfl⟩ ⟨Nat.zero_le _, Nat.zero_le _⟩ dX11_added_31) hS (fun v0 w0 H locs hp hW hS => ?_)
      obtain ⟨rfl, rfl⟩ := hp
      obtain ⟨r1007, M1008, h1009, h⟩ := bind2 h
      refine cBack C.2.2.2.2.2.2.2.2 (runV (As := [.int (r1004)]) (rest := []) C hW hS (c_X11_weight l g M1005 r1004 _ _ h1009) kV_X11_weight ml_X11_88 (by decide) tm_Model rfl rfl rfl hl.1 rfl (Nat.le_of_ble_eq_true rfl) ⟨Nat.le_of_ble_eq_true rfl, Nat.le_of_ble_eq_true rfl⟩ ⟨Nat.zero_le _, Nat.zero_le _⟩ dX11_added_34) hS (fun v0 w0 H locs hp hW hS => ?_)
      obtain ⟨rfl, rfl⟩ := hp
      refine lv_istore (lv' := [(5, .int (r1007)), (0, rf g (1697)), (1, .int (x)), (2, .int (y)), (3, .int (u)), (4, .int (z))]) hx hb dX11_added_37 hl (by decide) rfl (fun ls hl => ?_)
      refine lv_iload_n hx hb dX11_added_39 rfl (lv_at hl 4 rfl) ?_
      refine lv_iload hx hb dX11_added_40 (lv_at hl 0 rfl) ?_
      refine lv_iadd hx hb dX11_added_42 ?_
      refine lv_istore_n (lv' := [(3, .int ((u) + (r1007))), (5, .int (r1007)), (0, rf g (1697)), (1, .int (x)), (2, .int (y)), (4, .int (z))]) hx hb dX11_added_43 rfl hl (by decide) rfl (fun ls hl => ?_)
      refine lv_iload hx hb dX11_added_44 (lv_at hl 1 rfl) ?_
      refine lv_aload_n hx hb dX11_added_46 rfl (lv_at hl 2 rfl) ?_
      refine rGet (k := 10) C hW (by decide) tm_Model rfl inX11 (by decide) fl_X11_34 rfl dX11_added_47 ?_
      refine lv_iload hx hb dX11_added_50 (lv_at hl 5 rfl) ?_
      have s1010 : vin (z) 30 := Classical.byContradiction fun q9 => by rw [if_neg q9] at h; cases h
      rw [if_pos s1010] at h
      refine rIld C hW (by decide) tm_deep s1010 dX11_added_52 ?_
      refine lv_ishl hx hb dX11_added_53 ?_
      refine lv_iload_n hx hb dX11_added_54 rfl (lv_at hl 4 rfl) ?_
      refine lv_icmp_le (tgt := 71) hx hb dX11_added_55 (by decide) (fun c1011 => ?_) (fun c1011 => ?_)
      · rw [if_pos c1011] at h
        refine lv_iload_n hx hb dX11_added_71 rfl (lv_at hl 4 rfl) ?_
        refine lv_istore_n (lv' := [(2, .int (y)), (3, .int ((u) + (r1007))), (5, .int (r1007)), (0, rf g (1697)), (1, .int (x)), (4, .int (z))]) hx hb dX11_added_72 rfl hl (by decide) rfl (fun ls hl => ?_)
        refine lv_iinc (v := z + 1) (lv' := [(4, .int (z + 1)), (2, .int (y)), (3, .int ((u) + (r1007))), (5, .int (r1007)), (0, rf g (1697)), (1, .int (x))]) hx hb dX11_added_73 hl (k := 5) rfl rfl (by decide) rfl (fun ls hl => ?_)
        refine lv_goto (tgt := 14) hx hb dX11_added_76 (by decide) ?_
        exact ih M1008 x y ((u) + (r1007)) (z + 1) h _ _ hW hS ls (lv_sub hl [4, 5, 1, 2, 0] rfl)
      · rw [if_neg c1011] at h
        refine lv_iload hx hb dX11_added_58 (lv_at hl 1 rfl) ?_
        refine lv_aload_n hx hb dX11_added_60 rfl (lv_at hl 2 rfl) ?_
        refine rGet (k := 10) C hW (by decide) tm_Model rfl inX11 (by decide) fl_X11_34 rfl dX11_added_61 ?_
        refine lv_iload hx hb dX11_added_64 (lv_at hl 5 rfl) ?_
        have s1012 : vin (z) 30 := Classical.byContradiction fun q9 => by rw [if_neg q9] at h; cases h
        rw [if_pos s1012] at h
        refine rIld C hW (by decide) tm_deep s1012 dX11_added_66 ?_
        refine lv_ishl hx hb dX11_added_67 ?_
        refine lv_goto (tgt := 72) hx hb dX11_added_68 (by decide) ?_
        refine lv_istore_n (lv' := [(2, .int ((r1007) <<< ((M1008 29 (z : Int32).toNatClampNeg) &&& 31))), (3, .int ((u) + (r1007))), (5, .int (r1007)), (0, rf g (1697)), (1, .int (x)), (4, .int (z))]) hx hb dX11_added_72 rfl hl (by decide) rfl (fun ls hl => ?_)
        refine lv_iinc (v := z + 1) (lv' := [(4, .int (z + 1)), (2, .int ((r1007) <<< ((M1008 29 (z : Int32).toNatClampNeg) &&& 31))), (3, .int ((u) + (r1007))), (5, .int (r1007)), (0, rf g (1697)), (1, .int (x))]) hx hb dX11_added_73 hl (k := 5) rfl rfl (by decide) rfl (fun ls hl => ?_)
        refine lv_goto (tgt := 14) hx hb dX11_added_76 (by decide) ?_
        exact ih M1008 x ((r1007) <<< ((M1008 29 (z : Int32).toNatClampNeg) &&& 31)) ((u) + (r1007)) (z + 1) h _ _ hW hS ls (lv_sub hl [4, 5, 1, 2, 0] rfl)
set_option maxHeartbeats 4000000 in
set_option maxRecDepth 100000 in
theorem c_X11_added (l : Launch) (g : GD) (M : MM)  (r : Int32) (M2 : MM) (h : f_X11_added M  = some (r, M2)) : Met l yX11_added (wm yX11_added cX11_added 6 (some .int)) (RM 1 21) (va_Pc [rf g (1697)] (WDp g M)) (QQ g (fun v w0 => v = .int r ∧ M2 = w0)) 0 0 (AA g) := by
  refine mkM (by decide +kernel) (Nat.le_of_ble_eq_true rfl) ?_
  intro p e s m below meth c C hr hlk hW hS ls hl
  have hl : lv_has ls 6 [(0, rf g (1697))] := hl
  have hx := C.1
  have hb := C.2.1
  have hts := C.2.2.2.2.1
  unfold f_X11_added at h
  refine lv_iconst (v := 1) hx hb dX11_added_0 (by decide) ?_
  refine lv_aload_n hx hb dX11_added_1 rfl (lv_at hl 0 rfl) ?_
  refine rGet (k := 13) C hW (by decide) tm_Model rfl inX11 (by decide) fl_X11_212 rfl dX11_added_2 ?_
  refine lv_ishl hx hb dX11_added_5 ?_
  refine lv_istore_n (lv' := [(1, .int ((1) <<< ((M 20 13) &&& 31))), (0, rf g (1697))]) hx hb dX11_added_6 rfl hl (by decide) rfl (fun ls hl => ?_)
  refine lv_iconst (v := 0) hx hb dX11_added_7 (by decide) ?_
  refine lv_istore_n (lv' := [(2, .int (0)), (1, .int ((1) <<< ((M 20 13) &&& 31))), (0, rf g (1697))]) hx hb dX11_added_8 rfl hl (by decide) rfl (fun ls hl => ?_)
  refine lv_iconst (v := 0) hx hb dX11_added_9 (by decide) ?_
  refine lv_istore_n (lv' := [(3, .int (0)), (2, .int (0)), (1, .int ((1) <<< ((M 20 13) &&& 31))), (0, rf g (1697))]) hx hb dX11_added_10 rfl hl (by decide) rfl (fun ls hl => ?_)
  refine lv_iconst (v := 0) hx hb dX11_added_11 (by decide) ?_
  refine lv_istore (lv' := [(4, .int (0)), (3, .int (0)), (2, .int (0)), (1, .int ((1) <<< ((M 20 13) &&& 31))), (0, rf g (1697))]) hx hb dX11_added_12 hl (by decide) rfl (fun ls hl => ?_)
  exact t_X11_added_14 l g    FU M ((1) <<< ((M 20 13) &&& 31)) 0 0 0 _ _ h C hr hlk _ _ hW hS ls (lv_sub hl [4, 3, 2, 1, 0] rfl)
def f_X11_frame (M : MM) (x : Int32) : Option (Int32 × MM) := (bnd2 (f_X11_in M x 0 5) fun r1 M2 => (if (r1 : Int32) = 0 then some (-1, M2) else (bnd2 (f_X11_reads M2 ) fun r5 M6 => (if (r5 : Int32) = 0 then some (-2, M6) else (if (x : Int32) = 0 then some (M6 20 20, M6) else (if (x : Int32) = (1 : Int32) then some (M6 20 11, M6) else (if (x : Int32) = (2 : Int32) then some (M6 20 12, M6) else (if (x : Int32) = (3 : Int32) then some (M6 20 13, M6) else (if (x : Int32) = (4 : Int32) then some (M6 20 14, M6) else (bnd2 (f_X11_added M6 ) fun r14 M15 => some (r14, M15)))))))))))
set_option maxHeartbeats 4000000 in
set_option maxRecDepth 100000 in
theorem c_X11_frame (l : Launch) (g : GD) (M : MM) (x : Int32) (r : Int32) (M2 : MM) (h : f_X11_frame M x = some (r, M2)) : Met l yX11_frame (wm yX11_frame cX11_frame 2 (some .int)) (RM 4 88) (va_Pc [rf g (1697), .int (x)] (WDp g M)) (QQ g (fun v w0 => v = .int r ∧ M2 = w0)) 0 0 (AA g) := by
  refine mkM (by decide +kernel) (Nat.le_of_ble_eq_true rfl) ?_
  intro p e s m below meth c C hr hlk hW hS ls hl
  have hl : lv_has ls 2 [(0, rf g (1697)), (1, .int (x))] := hl
  have hx := C.1
  have hb := C.2.1
  have hts := C.2.2.2.2.1
  unfold f_X11_frame at h
  refine lv_iload_n hx hb dX11_frame_0 rfl (lv_at hl 1 rfl) ?_
  refine lv_iconst (v := 0) hx hb dX11_frame_1 (by decide) ?_
  refine lv_iconst (v := 5) hx hb dX11_frame_2 (by decide) ?_
  obtain ⟨r1, M2, h3, h⟩ := bind2 h
  refine cBack C.2.2.2.2.2.2.2.2 (runS (As := [.int (x), .int (0), .int (5)]) (rest := []) C hW hS (c_X11_in l g M x 0 5 _ _ h3) kS_X11_in ml_X11_68 rfl hl.1 rfl (Nat.le_of_ble_eq_true rfl) ⟨Nat.le_of_ble_eq_true rfl, Nat.le_of_ble_eq_true rfl⟩ ⟨Nat.zero_le _, Nat.zero_le _⟩ dX11_frame_3) hS (fun v0 w0 H locs hp hW hS => ?_)
  obtain ⟨rfl, rfl, zr1⟩ := hp
  refine lv_if_ne (tgt := 11) hx hb dX11_frame_6 (by decide) (fun c4 => ?_) (fun c4 => ?_)
  · rw [if_neg c4] at h
    refine lv_aload_n hx hb dX11_frame_11 rfl (lv_at hl 0 rfl) ?_
    obtain ⟨r5, M6, h7, h⟩ := bind2 h
    refine cBack C.2.2.2.2.2.2.2.2 (runV (As := []) (rest := []) C hW hS (c_X11_reads l g M2  _ _ h7) kV_X11_reads ml_X11_222 (by decide) tm_Model rfl rfl rfl hl.1 rfl (Nat.le_of_ble_eq_true rfl) ⟨Nat.le_of_ble_eq_true rfl, Nat.le_of_ble_eq_true rfl⟩ ⟨Nat.zero_le _, Nat.zero_le _⟩ dX11_frame_12) hS (fun v0 w0 H locs hp hW hS => ?_)
    obtain ⟨rfl, rfl, zr5⟩ := hp
    refine lv_if_ne (tgt := 21) hx hb dX11_frame_15 (by decide) (fun c8 => ?_) (fun c8 => ?_)
    · rw [if_neg c8] at h
      refine lv_iload_n hx hb dX11_frame_21 rfl (lv_at hl 1 rfl) ?_
      refine lv_if_ne (tgt := 32) hx hb dX11_frame_22 (by decide) (fun c9 => ?_) (fun c9 => ?_)
      · rw [if_neg c9] at h
        refine lv_iload_n hx hb dX11_frame_32 rfl (lv_at hl 1 rfl) ?_
        refine lv_iconst (v := 1) hx hb dX11_frame_33 (by decide) ?_
        refine lv_icmp_ne (tgt := 44) hx hb dX11_frame_34 (by decide) (fun c10 => ?_) (fun c10 => ?_)
        · rw [if_neg c10] at h
          refine lv_iload_n hx hb dX11_frame_44 rfl (lv_at hl 1 rfl) ?_
          refine lv_iconst (v := 2) hx hb dX11_frame_45 (by decide) ?_
          refine lv_icmp_ne (tgt := 56) hx hb dX11_frame_46 (by decide) (fun c11 => ?_) (fun c11 => ?_)
          · rw [if_neg c11] at h
            refine lv_iload_n hx hb dX11_frame_56 rfl (lv_at hl 1 rfl) ?_
            refine lv_iconst (v := 3) hx hb dX11_frame_57 (by decide) ?_
            refine lv_icmp_ne (tgt := 68) hx hb dX11_frame_58 (by decide) (fun c12 => ?_) (fun c12 => ?_)
            · rw [if_neg c12] at h
              refine lv_iload_n hx hb dX11_frame_68 rfl (lv_at hl 1 rfl) ?_
              refine lv_iconst (v := 4) hx hb dX11_frame_69 (by decide) ?_
              refine lv_icmp_ne (tgt := 80) hx hb dX11_frame_70 (by decide) (fun c13 => ?_) (fun c13 => ?_)
              · rw [if_neg c13] at h
                refine lv_aload_n hx hb dX11_frame_80 rfl (lv_at hl 0 rfl) ?_
                obtain ⟨r14, M15, h16, h⟩ := bind2 h
                refine cBack C.2.2.2.2.2.2.2.2 (runV (As := []) (rest := []) C hW hS (c_X11_added l g M6  _ _ h16) kV_X11_added ml_X11_225 (by decide) tm_Model rfl rfl rfl hl.1 rfl (Nat.le_of_ble_eq_true rfl) ⟨Nat.le_of_ble_eq_true rfl, Nat.le_of_ble_eq_true rfl⟩ ⟨Nat.zero_le _, Nat.zero_le _⟩ dX11_frame_81) hS (fun v0 w0 H locs hp hW hS => ?_)
                obtain ⟨rfl, rfl⟩ := hp
                cases h
                exact rI C hr hlk dX11_frame_84 hW hS ⟨rfl, rfl⟩
              · rw [if_pos c13] at h
                refine lv_aload_n hx hb dX11_frame_73 rfl (lv_at hl 0 rfl) ?_
                refine rGet (k := 14) C hW (by decide) tm_Model rfl inX11 (by decide) fl_X11_206 rfl dX11_frame_74 ?_
                refine lv_goto (tgt := 84) hx hb dX11_frame_77 (by decide) ?_
                cases h
                exact rI C hr hlk dX11_frame_84 hW hS ⟨rfl, rfl⟩
            · rw [if_pos c12] at h
              refine lv_aload_n hx hb dX11_frame_61 rfl (lv_at hl 0 rfl) ?_
              refine rGet (k := 13) C hW (by decide) tm_Model rfl inX11 (by decide) fl_X11_212 rfl dX11_frame_62 ?_
              refine lv_goto (tgt := 84) hx hb dX11_frame_65 (by decide) ?_
              cases h
              exact rI C hr hlk dX11_frame_84 hW hS ⟨rfl, rfl⟩
          · rw [if_pos c11] at h
            refine lv_aload_n hx hb dX11_frame_49 rfl (lv_at hl 0 rfl) ?_
            refine rGet (k := 12) C hW (by decide) tm_Model rfl inX11 (by decide) fl_X11_209 rfl dX11_frame_50 ?_
            refine lv_goto (tgt := 84) hx hb dX11_frame_53 (by decide) ?_
            cases h
            exact rI C hr hlk dX11_frame_84 hW hS ⟨rfl, rfl⟩
        · rw [if_pos c10] at h
          refine lv_aload_n hx hb dX11_frame_37 rfl (lv_at hl 0 rfl) ?_
          refine rGet (k := 11) C hW (by decide) tm_Model rfl inX11 (by decide) fl_X11_197 rfl dX11_frame_38 ?_
          refine lv_goto (tgt := 84) hx hb dX11_frame_41 (by decide) ?_
          cases h
          exact rI C hr hlk dX11_frame_84 hW hS ⟨rfl, rfl⟩
      · rw [if_pos c9] at h
        refine lv_aload_n hx hb dX11_frame_25 rfl (lv_at hl 0 rfl) ?_
        refine rGet (k := 20) C hW (by decide) tm_Model rfl inX11 (by decide) fl_X11_203 rfl dX11_frame_26 ?_
        refine lv_goto (tgt := 84) hx hb dX11_frame_29 (by decide) ?_
        cases h
        exact rI C hr hlk dX11_frame_84 hW hS ⟨rfl, rfl⟩
    · rw [if_pos c8] at h
      refine lv_bipush (v := -2) hx hb dX11_frame_18 (by decide) ?_
      cases h
      exact rI C hr hlk dX11_frame_20 hW hS ⟨rfl, rfl⟩
  · rw [if_pos c4] at h
    refine lv_iconst (v := -1) hx hb dX11_frame_9 (by decide) ?_
    cases h
    exact rI C hr hlk dX11_frame_10 hW hS ⟨rfl, rfl⟩
