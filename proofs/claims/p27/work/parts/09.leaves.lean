def letJ {β : Type} (a : Int32) (f : Int32 → β) : β := f a
theorem letEJ {β : Type} {a : Int32} {f : Int32 → β} {b : β} (h : letJ a f = b) : f a = b := h
abbrev jabs (x : Int32) : Int32 := if 0 ≤ x then x else 0 - x
def optE {α : Type} (r : Option Nat) (a : α) (b : Nat → α) : α := match r with
  | none => a
  | some j => b j
theorem optN {α : Type} {a : α} {b : Nat → α} {c : α} (h : optE none a b = c) : a = c := h
theorem optS {α : Type} {j : Nat} {a : α} {b : Nat → α} {c : α} (h : optE (some j) a b = c) : b j = c := h
def f_X10_isIn (M : MM) (x : Int32) (a : Int32) (b : Int32) : Option (Int32 × MM) := (if (x : Int32) < (a : Int32) then some (0, M) else (if (b : Int32) < (x : Int32) then some (0, M) else some (1, M)))
set_option maxHeartbeats 4000000 in
set_option maxRecDepth 100000 in
theorem c_X10_isIn (l : Launch) (g : GD) (M : MM) (x : Int32) (a : Int32) (b : Int32) (r : Int32) (M2 : MM) (h : f_X10_isIn M x a b = some (r, M2)) : Met l yX10_isIn (wm yX10_isIn cX10_isIn 3 (some .boolean)) (RM 0 0) (va_Pc [.int (x), .int (a), .int (b)] (WDp g M)) (QQ g (fun v w0 => v = .int r ∧ M2 = w0 ∧ (r = 0 ∨ r = 1))) 0 0 (AA g) := by
  refine mkM (by decide +kernel) (Nat.le_of_ble_eq_true rfl) ?_
  intro p e s m below meth c C hr hlk hW hS ls hl
  have hl : lv_has ls 3 [(0, .int (x)), (1, .int (a)), (2, .int (b))] := hl
  have hx := C.1
  have hb := C.2.1
  have hts := C.2.2.2.2.1
  unfold f_X10_isIn at h
  refine lv_iload_n hx hb dX10_isIn_0 rfl (lv_at hl 0 rfl) ?_
  refine lv_iload_n hx hb dX10_isIn_1 rfl (lv_at hl 1 rfl) ?_
  refine lv_icmp_lt (tgt := 14) hx hb dX10_isIn_2 (by decide) (fun c1 => ?_) (fun c1 => ?_)
  · rw [if_pos c1] at h
    refine lv_iconst (v := 0) hx hb dX10_isIn_14 (by decide) ?_
    cases h
    exact rZ C hr hlk dX10_isIn_15 hW hS (nar01 (Or.inl rfl)) ⟨rfl, rfl, (Or.inl rfl)⟩
  · rw [if_neg c1] at h
    refine lv_iload_n hx hb dX10_isIn_5 rfl (lv_at hl 0 rfl) ?_
    refine lv_iload_n hx hb dX10_isIn_6 rfl (lv_at hl 2 rfl) ?_
    refine lv_icmp_gt (tgt := 14) hx hb dX10_isIn_7 (by decide) (fun c2 => ?_) (fun c2 => ?_)
    · rw [if_pos c2] at h
      refine lv_iconst (v := 0) hx hb dX10_isIn_14 (by decide) ?_
      cases h
      exact rZ C hr hlk dX10_isIn_15 hW hS (nar01 (Or.inl rfl)) ⟨rfl, rfl, (Or.inl rfl)⟩
    · rw [if_neg c2] at h
      refine lv_iconst (v := 1) hx hb dX10_isIn_10 (by decide) ?_
      refine lv_goto (tgt := 15) hx hb dX10_isIn_11 (by decide) ?_
      cases h
      exact rZ C hr hlk dX10_isIn_15 hW hS (nar01 (Or.inr rfl)) ⟨rfl, rfl, (Or.inr rfl)⟩
def f_X10_isMetal (M : MM) (x : Int32) : Option (Int32 × MM) := (bnd2 (f_X10_isIn M x 0 1) fun r1 M2 => some (r1, M2))
set_option maxHeartbeats 4000000 in
set_option maxRecDepth 100000 in
theorem c_X10_isMetal (l : Launch) (g : GD) (M : MM) (x : Int32) (r : Int32) (M2 : MM) (h : f_X10_isMetal M x = some (r, M2)) : Met l yX10_isMetal (wm yX10_isMetal cX10_isMetal 1 (some .boolean)) (RM 1 22) (va_Pc [.int (x)] (WDp g M)) (QQ g (fun v w0 => v = .int r ∧ M2 = w0 ∧ (r = 0 ∨ r = 1))) 0 0 (AA g) := by
  refine mkM (by decide +kernel) (Nat.le_of_ble_eq_true rfl) ?_
  intro p e s m below meth c C hr hlk hW hS ls hl
  have hl : lv_has ls 1 [(0, .int (x))] := hl
  have hx := C.1
  have hb := C.2.1
  have hts := C.2.2.2.2.1
  unfold f_X10_isMetal at h
  refine lv_iload_n hx hb dX10_isMetal_0 rfl (lv_at hl 0 rfl) ?_
  refine lv_iconst (v := 0) hx hb dX10_isMetal_1 (by decide) ?_
  refine lv_iconst (v := 1) hx hb dX10_isMetal_2 (by decide) ?_
  obtain ⟨r1, M2, h3, h⟩ := bind2 h
  refine cBack C.2.2.2.2.2.2.2.2 (runS (As := [.int (x), .int (0), .int (1)]) (rest := []) C hW hS (c_X10_isIn l g M x 0 1 _ _ h3) kS_X10_isIn ml_X10_50 rfl hl.1 rfl (Nat.le_of_ble_eq_true rfl) ⟨Nat.le_of_ble_eq_true rfl, Nat.le_of_ble_eq_true rfl⟩ ⟨Nat.zero_le _, Nat.zero_le _⟩ dX10_isMetal_3) hS (fun v0 w0 H locs hp hW hS => ?_)
  obtain ⟨rfl, rfl, zr1⟩ := hp
  cases h
  exact rZ C hr hlk dX10_isMetal_6 hW hS (nar01 zr1) ⟨rfl, rfl, zr1⟩
def f_X10_isProfile (M : MM) (x : Int32) : Option (Int32 × MM) := (bnd2 (f_X10_isIn M x 0 ((4) - (1))) fun r1 M2 => some (r1, M2))
set_option maxHeartbeats 4000000 in
set_option maxRecDepth 100000 in
theorem c_X10_isProfile (l : Launch) (g : GD) (M : MM) (x : Int32) (r : Int32) (M2 : MM) (h : f_X10_isProfile M x = some (r, M2)) : Met l yX10_isProfile (wm yX10_isProfile cX10_isProfile 1 (some .boolean)) (RM 1 22) (va_Pc [.int (x)] (WDp g M)) (QQ g (fun v w0 => v = .int r ∧ M2 = w0 ∧ (r = 0 ∨ r = 1))) 0 0 (AA g) := by
  refine mkM (by decide +kernel) (Nat.le_of_ble_eq_true rfl) ?_
  intro p e s m below meth c C hr hlk hW hS ls hl
  have hl : lv_has ls 1 [(0, .int (x))] := hl
  have hx := C.1
  have hb := C.2.1
  have hts := C.2.2.2.2.1
  unfold f_X10_isProfile at h
  refine lv_iload_n hx hb dX10_isProfile_0 rfl (lv_at hl 0 rfl) ?_
  refine lv_iconst (v := 0) hx hb dX10_isProfile_1 (by decide) ?_
  refine rGs C hS C.2.2.2.2.2.2.1.2.2.2 fl_X10_269 dX10_isProfile_2 ?_
  refine rTlen (v := 4) C hS C.2.2.2.2.2.2.1.2.2.2 (by decide) dX10_isProfile_5 ?_
  refine lv_iconst (v := 1) hx hb dX10_isProfile_6 (by decide) ?_
  refine lv_isub hx hb dX10_isProfile_7 ?_
  obtain ⟨r1, M2, h3, h⟩ := bind2 h
  refine cBack C.2.2.2.2.2.2.2.2 (runS (As := [.int (x), .int (0), .int ((4) - (1))]) (rest := []) C hW hS (c_X10_isIn l g M x 0 ((4) - (1)) _ _ h3) kS_X10_isIn ml_X10_50 rfl hl.1 rfl (Nat.le_of_ble_eq_true rfl) ⟨Nat.le_of_ble_eq_true rfl, Nat.le_of_ble_eq_true rfl⟩ ⟨Nat.zero_le _, Nat.zero_le _⟩ dX10_isProfile_8) hS (fun v0 w0 H locs hp hW hS => ?_)
  obtain ⟨rfl, rfl, zr1⟩ := hp
  cases h
  exact rZ C hr hlk dX10_isProfile_11 hW hS (nar01 zr1) ⟨rfl, rfl, zr1⟩
def f_X10_shareRoundedUp (M : MM) (x : Int32) (y : Int32) : Option (Int32 × MM) := some ((((x) * (y)) + (999)) / (1000), M)
set_option maxHeartbeats 4000000 in
set_option maxRecDepth 100000 in
theorem c_X10_shareRoundedUp (l : Launch) (g : GD) (M : MM) (x : Int32) (y : Int32) (r : Int32) (M2 : MM) (h : f_X10_shareRoundedUp M x y = some (r, M2)) : Met l yX10_shareRoundedUp (wm yX10_shareRoundedUp cX10_shareRoundedUp 2 (some .int)) (RM 0 0) (va_Pc [.int (x), .int (y)] (WDp g M)) (QQ g (fun v w0 => v = .int r ∧ M2 = w0)) 0 0 (AA g) := by
  refine mkM (by decide +kernel) (Nat.le_of_ble_eq_true rfl) ?_
  intro p e s m below meth c C hr hlk hW hS ls hl
  have hl : lv_has ls 2 [(0, .int (x)), (1, .int (y))] := hl
  have hx := C.1
  have hb := C.2.1
  have hts := C.2.2.2.2.1
  unfold f_X10_shareRoundedUp at h
  refine lv_iload_n hx hb dX10_shareRoundedUp_0 rfl (lv_at hl 0 rfl) ?_
  refine lv_iload_n hx hb dX10_shareRoundedUp_1 rfl (lv_at hl 1 rfl) ?_
  refine lv_imul hx hb dX10_shareRoundedUp_2 ?_
  refine lv_sipush (v := 999) hx hb dX10_shareRoundedUp_3 (by decide) ?_
  refine lv_iadd hx hb dX10_shareRoundedUp_6 ?_
  refine lv_sipush (v := 1000) hx hb dX10_shareRoundedUp_7 (by decide) ?_
  refine lv_idiv hx hb dX10_shareRoundedUp_10 (by decide) ?_
  cases h
  exact rI C hr hlk dX10_shareRoundedUp_11 hW hS ⟨rfl, rfl⟩
def f_X10_cube (M : MM) (x : Int64) : Option (Int64 × MM) := some (((x) * (x)) * (x), M)
set_option maxHeartbeats 4000000 in
set_option maxRecDepth 100000 in
theorem c_X10_cube (l : Launch) (g : GD) (M : MM) (x : Int64) (r : Int64) (M2 : MM) (h : f_X10_cube M x = some (r, M2)) : Met l yX10_cube (wm yX10_cube cX10_cube 2 (some .long)) (RM 0 0) (va_Pc [.long (x)] (WDp g M)) (QQ g (fun v w0 => v = .long r ∧ M2 = w0)) 0 0 (AA g) := by
  refine mkM (by decide +kernel) (Nat.le_of_ble_eq_true rfl) ?_
  intro p e s m below meth c C hr hlk hW hS ls hl
  have hl : lv_has ls 2 [(0, .long (x))] := hl
  have hx := C.1
  have hb := C.2.1
  have hts := C.2.2.2.2.1
  unfold f_X10_cube at h
  refine lv_lload_n hx hb dX10_cube_0 rfl (lv_at hl 0 rfl) ?_
  refine lv_lload_n hx hb dX10_cube_1 rfl (lv_at hl 0 rfl) ?_
  refine lv_lmul hx hb dX10_cube_2 ?_
  refine lv_lload_n hx hb dX10_cube_3 rfl (lv_at hl 0 rfl) ?_
  refine lv_lmul hx hb dX10_cube_4 ?_
  cases h
  exact rL C hr hlk dX10_cube_5 hW hS ⟨rfl, rfl⟩
def f_X10_firstPitch (M : MM) (pf : Int32) (r0 : Int32) (al : Int32) : Option (Int32 × MM) := (if vin (pf) 4 then (if (jmax (1) (r0) : Int32) = 0 then none else some ((((sFac (pf).toNatClampNeg) * (1000)) / (jmax (1) (r0))) + ((al) / (4)), M)) else none)
set_option maxHeartbeats 4000000 in
set_option maxRecDepth 100000 in
theorem c_X10_firstPitch (l : Launch) (g : GD) (M : MM) (pf : Int32) (r0 : Int32) (al : Int32) (r : Int32) (M2 : MM) (h : f_X10_firstPitch M pf r0 al = some (r, M2)) : Met l yX10_firstPitch (wm yX10_firstPitch cX10_firstPitch 3 (some .int)) (RM 1 40) (va_Pc [.int (pf), .int (r0), .int (al)] (WDp g M)) (QQ g (fun v w0 => v = .int r ∧ M2 = w0)) 0 0 (AA g) := by
  refine mkM (by decide +kernel) (Nat.le_of_ble_eq_true rfl) ?_
  intro p e s m below meth c C hr hlk hW hS ls hl
  have hl : lv_has ls 3 [(0, .int (pf)), (1, .int (r0)), (2, .int (al))] := hl
  have hx := C.1
  have hb := C.2.1
  have hts := C.2.2.2.2.1
  unfold f_X10_firstPitch at h
  refine rGs C hS C.2.2.2.2.2.2.1.2.2.2 fl_X10_269 dX10_firstPitch_0 ?_
  refine lv_iload_n hx hb dX10_firstPitch_3 rfl (lv_at hl 0 rfl) ?_
  have s1 : vin (pf) 4 := Classical.byContradiction fun q9 => by rw [if_neg q9] at h; cases h
  rw [if_pos s1] at h
  refine rTld C hS C.2.2.2.2.2.2.1.2.2.2 s1 dX10_firstPitch_4 ?_
  refine lv_sipush (v := 1000) hx hb dX10_firstPitch_5 (by decide) ?_
  refine lv_imul hx hb dX10_firstPitch_8 ?_
  refine lv_iconst (v := 1) hx hb dX10_firstPitch_9 (by decide) ?_
  refine lv_iload_n hx hb dX10_firstPitch_10 rfl (lv_at hl 1 rfl) ?_
  refine va_mmax hx hb (C.2.2.1.trans hl.1.symm) C.2.2.2.1 (hts _ ml_X10_278) (hts _ st_max) (hts _ in_J9) (hts _ co_max) (Nat.le_of_ble_eq_true rfl) (Nat.le_of_ble_eq_true rfl) (Nat.zero_le _) (Nat.zero_le _) dX10_firstPitch_11 ?_
  have s2 : ¬ ((jmax (1) (r0) : Int32) = 0) := fun q9 => by rw [if_pos q9] at h; cases h
  rw [if_neg s2] at h
  refine lv_idiv hx hb dX10_firstPitch_14 s2 ?_
  refine lv_iload_n hx hb dX10_firstPitch_15 rfl (lv_at hl 2 rfl) ?_
  refine lv_iconst (v := 4) hx hb dX10_firstPitch_16 (by decide) ?_
  refine lv_idiv hx hb dX10_firstPitch_17 (by decide) ?_
  refine lv_iadd hx hb dX10_firstPitch_18 ?_
  cases h
  exact rI C hr hlk dX10_firstPitch_19 hW hS ⟨rfl, rfl⟩
def f_X10_heaviestAtPitch (M : MM) (pf : Int32) (x : Int32) : Option (Int32 × MM) := (if (1 : Int32) ≤ ((x) - (250) : Int32) then (if vin (pf) 4 then (if ((x) - (250) : Int32) = 0 then none else (bnd2 (f_X10_cube M (Int32.toInt64 ((((sFac (pf).toNatClampNeg) * (1000)) / ((x) - (250))) + (1)))) fun r4 M5 => some (Int64.toInt32 (jlmin (10000) (((r4) - (1)) / (1000000))), M5))) else none) else some (10000, M))
set_option maxHeartbeats 4000000 in
set_option maxRecDepth 100000 in
theorem c_X10_heaviestAtPitch (l : Launch) (g : GD) (M : MM) (pf : Int32) (x : Int32) (r : Int32) (M2 : MM) (h : f_X10_heaviestAtPitch M pf x = some (r, M2)) : Met l yX10_heaviestAtPitch (wm yX10_heaviestAtPitch cX10_heaviestAtPitch 5 (some .int)) (RM 1 40) (va_Pc [.int (pf), .int (x)] (WDp g M)) (QQ g (fun v w0 => v = .int r ∧ M2 = w0)) 0 0 (AA g) := by
  refine mkM (by decide +kernel) (Nat.le_of_ble_eq_true rfl) ?_
  intro p e s m below meth c C hr hlk hW hS ls hl
  have hl : lv_has ls 5 [(0, .int (pf)), (1, .int (x))] := hl
  have hx := C.1
  have hb := C.2.1
  have hts := C.2.2.2.2.1
  unfold f_X10_heaviestAtPitch at h
  refine lv_iload_n hx hb dX10_heaviestAtPitch_0 rfl (lv_at hl 1 rfl) ?_
  refine lv_sipush (v := 250) hx hb dX10_heaviestAtPitch_1 (by decide) ?_
  refine lv_isub hx hb dX10_heaviestAtPitch_4 ?_
  refine lv_istore_n (lv' := [(2, .int ((x) - (250))), (0, .int (pf)), (1, .int (x))]) hx hb dX10_heaviestAtPitch_5 rfl hl (by decide) rfl (fun ls hl => ?_)
  refine lv_iload_n hx hb dX10_heaviestAtPitch_6 rfl (lv_at hl 0 rfl) ?_
  refine lv_iconst (v := 1) hx hb dX10_heaviestAtPitch_7 (by decide) ?_
  refine lv_icmp_ge (tgt := 15) hx hb dX10_heaviestAtPitch_8 (by decide) (fun c1 => ?_) (fun c1 => ?_)
  · rw [if_pos c1] at h
    refine rGs C hS C.2.2.2.2.2.2.1.2.2.2 fl_X10_269 dX10_heaviestAtPitch_15 ?_
    refine lv_iload_n hx hb dX10_heaviestAtPitch_18 rfl (lv_at hl 1 rfl) ?_
    have s2 : vin (pf) 4 := Classical.byContradiction fun q9 => by rw [if_neg q9] at h; cases h
    rw [if_pos s2] at h
    refine rTld C hS C.2.2.2.2.2.2.1.2.2.2 s2 dX10_heaviestAtPitch_19 ?_
    refine lv_sipush (v := 1000) hx hb dX10_heaviestAtPitch_20 (by decide) ?_
    refine lv_imul hx hb dX10_heaviestAtPitch_23 ?_
    refine lv_iload_n hx hb dX10_heaviestAtPitch_24 rfl (lv_at hl 0 rfl) ?_
    have s3 : ¬ (((x) - (250) : Int32) = 0) := fun q9 => by rw [if_pos q9] at h; cases h
    rw [if_neg s3] at h
    refine lv_idiv hx hb dX10_heaviestAtPitch_25 s3 ?_
    refine lv_iconst (v := 1) hx hb dX10_heaviestAtPitch_26 (by decide) ?_
    refine lv_iadd hx hb dX10_heaviestAtPitch_27 ?_
    refine lv_i2l hx hb dX10_heaviestAtPitch_28 rfl ?_
    refine lv_lstore_n (lv' := [(3, .long (Int32.toInt64 ((((sFac (pf).toNatClampNeg) * (1000)) / ((x) - (250))) + (1)))), (2, .int ((x) - (250))), (0, .int (pf)), (1, .int (x))]) hx hb dX10_heaviestAtPitch_29 rfl hl (by decide) rfl (fun ls hl => ?_)
    refine lv_ldc2 hx hb C.2.2.2.1 (C.2.2.2.2.1 _ kc_X10_283) dX10_heaviestAtPitch_30 ?_
    refine lv_lload_n hx hb dX10_heaviestAtPitch_33 rfl (lv_at hl 0 rfl) ?_
    obtain ⟨r4, M5, h6, h⟩ := bind2 h
    refine cBack C.2.2.2.2.2.2.2.2 (runS (As := [.long (Int32.toInt64 ((((sFac (pf).toNatClampNeg) * (1000)) / ((x) - (250))) + (1)))]) (rest := [.long (10000)]) C hW hS (c_X10_cube l g M (Int32.toInt64 ((((sFac (pf).toNatClampNeg) * (1000)) / ((x) - (250))) + (1))) _ _ h6) kS_X10_cube ml_X10_272 rfl hl.1 rfl (Nat.le_of_ble_eq_true rfl) ⟨Nat.le_of_ble_eq_true rfl, Nat.le_of_ble_eq_true rfl⟩ ⟨Nat.zero_le _, Nat.zero_le _⟩ dX10_heaviestAtPitch_34) hS (fun v0 w0 H locs hp hW hS => ?_)
    obtain ⟨rfl, rfl⟩ := hp
    refine lv_lconst (v := 1) hx hb dX10_heaviestAtPitch_37 (by decide) ?_
    refine lv_lsub hx hb dX10_heaviestAtPitch_38 ?_
    refine lv_ldc2 hx hb C.2.2.2.1 (C.2.2.2.2.1 _ kc_X10_276) dX10_heaviestAtPitch_39 ?_
    refine lv_ldiv hx hb dX10_heaviestAtPitch_42 (by decide) ?_
    refine va_mmin_long hx hb (C.2.2.1.trans hl.1.symm) C.2.2.2.1 (hts _ ml_X10_285) (hts _ st_lmin) (hts _ in_J9) (hts _ co_lmin) (Nat.le_of_ble_eq_true rfl) (Nat.le_of_ble_eq_true rfl) (Nat.zero_le _) (Nat.zero_le _) dX10_heaviestAtPitch_43 ?_
    refine lv_l2i hx hb dX10_heaviestAtPitch_46 rfl ?_
    cases h
    exact rI C hr hlk dX10_heaviestAtPitch_47 hW hS ⟨rfl, rfl⟩
  · rw [if_neg c1] at h
    refine lv_sipush (v := 10000) hx hb dX10_heaviestAtPitch_11 (by decide) ?_
    cases h
    exact rI C hr hlk dX10_heaviestAtPitch_14 hW hS ⟨rfl, rfl⟩
def f_X6_of (M : MM) (G : Nat) (i : Nat) (x : Int32) : Option (Int32 × MM) := (if (x : Int32) = 0 then some (M G i, M) else some (M G (i + 1), M))
set_option maxHeartbeats 4000000 in
set_option maxRecDepth 100000 in
theorem c_X6_of (l : Launch) (g : GD) (M : MM) (o : Nat) (G : Nat) (i : Nat) (x : Int32) (hm : MX o G i) (r : Int32) (M2 : MM) (h : f_X6_of M G i x = some (r, M2)) : Met l yX6_of (wm yX6_of cX6_of 2 (some .int)) (RM 0 0) (va_Pc [rf g (o), .int (x)] (WDp g M)) (QQ g (fun v w0 => v = .int r ∧ M2 = w0)) 0 0 (AA g) := by
  refine mkM (by decide +kernel) (Nat.le_of_ble_eq_true rfl) ?_
  intro p e s m below meth c C hr hlk hW hS ls hl
  have hl : lv_has ls 2 [(0, rf g (o)), (1, .int (x))] := hl
  have hx := C.1
  have hb := C.2.1
  have hts := C.2.2.2.2.1
  unfold f_X6_of at h
  refine lv_iload_n hx hb dX6_of_0 rfl (lv_at hl 1 rfl) ?_
  refine lv_if_ne (tgt := 11) hx hb dX6_of_1 (by decide) (fun c1 => ?_) (fun c1 => ?_)
  · rw [if_neg c1] at h
    refine lv_aload_n hx hb dX6_of_11 rfl (lv_at hl 0 rfl) ?_
    refine rGet (k := 1) C hW hm.lt hm.cel rfl inX6 (by decide) fl_X6_15 rfl dX6_of_12 ?_
    cases h
    exact rI C hr hlk dX6_of_15 hW hS ⟨rfl, rfl⟩
  · rw [if_pos c1] at h
    refine lv_aload_n hx hb dX6_of_4 rfl (lv_at hl 0 rfl) ?_
    refine rGet (k := 0) C hW hm.lt hm.cel rfl inX6 (by decide) fl_X6_9 rfl dX6_of_5 ?_
    refine lv_goto (tgt := 15) hx hb dX6_of_8 (by decide) ?_
    cases h
    exact rI C hr hlk dX6_of_15 hW hS ⟨rfl, rfl⟩
def f_X6_put (M : MM) (G : Nat) (i : Nat) (x : Int32) (y : Int32) : Option (Unit × MM) := (if (x : Int32) = 0 then (letB (up2 M G i ((M G i) + (y))) fun M3 => some ((), M3)) else (letB (up2 M G (i + 1) ((M G (i + 1)) + (y))) fun M2 => some ((), M2)))
set_option maxHeartbeats 4000000 in
set_option maxRecDepth 100000 in
theorem c_X6_put (l : Launch) (g : GD) (M : MM) (o : Nat) (G : Nat) (i : Nat) (x : Int32) (y : Int32) (hm : MX o G i) (r : Unit) (M2 : MM) (h : f_X6_put M G i x y = some (r, M2)) : Met l yX6_put (wm yX6_put cX6_put 3 none) (RM 0 0) (va_Pc [rf g (o), .int (x), .int (y)] (WDp g M)) (QV g (fun w0 => M2 = w0)) 0 0 (AA g) := by
  refine mkM (by decide +kernel) (Nat.le_of_ble_eq_true rfl) ?_
  intro p e s m below meth c C hr hlk hW hS ls hl
  have hl : lv_has ls 3 [(0, rf g (o)), (1, .int (x)), (2, .int (y))] := hl
  have hx := C.1
  have hb := C.2.1
  have hts := C.2.2.2.2.1
  unfold f_X6_put at h
  refine lv_iload_n hx hb dX6_put_0 rfl (lv_at hl 1 rfl) ?_
  refine lv_if_ne (tgt := 17) hx hb dX6_put_1 (by decide) (fun c1 => ?_) (fun c1 => ?_)
  · rw [if_neg c1] at h
    refine lv_aload_n hx hb dX6_put_17 rfl (lv_at hl 0 rfl) ?_
    refine lv_dup hx hb dX6_put_18 rfl ?_
    refine rGet (k := 1) C hW hm.lt hm.cel rfl inX6 (by decide) fl_X6_15 rfl dX6_put_19 ?_
    refine lv_iload_n hx hb dX6_put_22 rfl (lv_at hl 2 rfl) ?_
    refine lv_iadd hx hb dX6_put_23 ?_
    refine rPut (k := 1) C hW hS hm.lt hm.cel rfl inX6 tyX6_ok nmX6 (by decide) fl_X6_15 rfl (by decide +kernel) (Nat.le_of_ble_eq_true rfl) (hm.up1 _) dX6_put_24 (fun H locs hW hS => ?_)
    have hW : Wd g (up2 M G (i + 1) ((M G (i + 1)) + (y))) H := hW
    have h := letE h
    generalize up2 M G (i + 1) ((M G (i + 1)) + (y)) = M2 at hW h
    cases h
    exact rV C hr hlk dX6_put_27 hW hS rfl
  · rw [if_pos c1] at h
    refine lv_aload_n hx hb dX6_put_4 rfl (lv_at hl 0 rfl) ?_
    refine lv_dup hx hb dX6_put_5 rfl ?_
    refine rGet (k := 0) C hW hm.lt hm.cel rfl inX6 (by decide) fl_X6_9 rfl dX6_put_6 ?_
    refine lv_iload_n hx hb dX6_put_9 rfl (lv_at hl 2 rfl) ?_
    refine lv_iadd hx hb dX6_put_10 ?_
    refine rPut (k := 0) C hW hS hm.lt hm.cel rfl inX6 tyX6_ok nmX6 (by decide) fl_X6_9 rfl (by decide +kernel) (Nat.le_of_ble_eq_true rfl) (hm.up0 _) dX6_put_11 (fun H locs hW hS => ?_)
    have hW : Wd g (up2 M G i ((M G i) + (y))) H := hW
    have h := letE h
    generalize up2 M G i ((M G i) + (y)) = M3 at hW h
    refine lv_goto (tgt := 27) hx hb dX6_put_14 (by decide) ?_
    cases h
    exact rV C hr hlk dX6_put_27 hW hS rfl
def f_X6_mixWith (M : MM) (G : Nat) (i : Nat) (G2 : Nat) (i2 : Nat) : Option (Unit × MM) := (letB (up2 M G i ((M G i) + (M G2 i2))) fun M1 => (letB (up2 M1 G (i + 1) ((M1 G (i + 1)) + (M1 G2 (i2 + 1)))) fun M2 => some ((), M2)))
set_option maxHeartbeats 4000000 in
set_option maxRecDepth 100000 in
theorem c_X6_mixWith (l : Launch) (g : GD) (M : MM) (o : Nat) (G : Nat) (i : Nat) (o2 : Nat) (G2 : Nat) (i2 : Nat) (hm : MX o G i) (hm2 : MX o2 G2 i2) (r : Unit) (M2 : MM) (h : f_X6_mixWith M G i G2 i2 = some (r, M2)) : Met l yX6_mixWith (wm yX6_mixWith cX6_mixWith 2 none) (RM 0 0) (va_Pc [rf g (o), rf g (o2)] (WDp g M)) (QV g (fun w0 => M2 = w0)) 0 0 (AA g) := by
  refine mkM (by decide +kernel) (Nat.le_of_ble_eq_true rfl) ?_
  intro p e s m below meth c C hr hlk hW hS ls hl
  have hl : lv_has ls 2 [(0, rf g (o)), (1, rf g (o2))] := hl
  have hx := C.1
  have hb := C.2.1
  have hts := C.2.2.2.2.1
  unfold f_X6_mixWith at h
  refine lv_aload_n hx hb dX6_mixWith_0 rfl (lv_at hl 0 rfl) ?_
  refine lv_dup hx hb dX6_mixWith_1 rfl ?_
  refine rGet (k := 0) C hW hm.lt hm.cel rfl inX6 (by decide) fl_X6_9 rfl dX6_mixWith_2 ?_
  refine lv_aload_n hx hb dX6_mixWith_5 rfl (lv_at hl 1 rfl) ?_
  refine rGet (k := 0) C hW hm2.lt hm2.cel rfl inX6 (by decide) fl_X6_9 rfl dX6_mixWith_6 ?_
  refine lv_iadd hx hb dX6_mixWith_9 ?_
  refine rPut (k := 0) C hW hS hm.lt hm.cel rfl inX6 tyX6_ok nmX6 (by decide) fl_X6_9 rfl (by decide +kernel) (Nat.le_of_ble_eq_true rfl) (hm.up0 _) dX6_mixWith_10 (fun H locs hW hS => ?_)
  have hW : Wd g (up2 M G i ((M G i) + (M G2 i2))) H := hW
  have h := letE h
  generalize up2 M G i ((M G i) + (M G2 i2)) = M1 at hW h
  refine lv_aload_n hx hb dX6_mixWith_13 rfl (lv_at hl 0 rfl) ?_
  refine lv_dup hx hb dX6_mixWith_14 rfl ?_
  refine rGet (k := 1) C hW hm.lt hm.cel rfl inX6 (by decide) fl_X6_15 rfl dX6_mixWith_15 ?_
  refine lv_aload_n hx hb dX6_mixWith_18 rfl (lv_at hl 1 rfl) ?_
  refine rGet (k := 1) C hW hm2.lt hm2.cel rfl inX6 (by decide) fl_X6_15 rfl dX6_mixWith_19 ?_
  refine lv_iadd hx hb dX6_mixWith_22 ?_
  refine rPut (k := 1) C hW hS hm.lt hm.cel rfl inX6 tyX6_ok nmX6 (by decide) fl_X6_15 rfl (by decide +kernel) (Nat.le_of_ble_eq_true rfl) (hm.up1 _) dX6_mixWith_23 (fun H locs hW hS => ?_)
  have hW : Wd g (up2 M1 G (i + 1) ((M1 G (i + 1)) + (M1 G2 (i2 + 1)))) H := hW
  have h := letE h
  generalize up2 M1 G (i + 1) ((M1 G (i + 1)) + (M1 G2 (i2 + 1))) = M2 at hW h
  cases h
  exact rV C hr hlk dX6_mixWith_26 hW hS rfl
def f_X6_copyFrom (M : MM) (G : Nat) (i : Nat) (G2 : Nat) (i2 : Nat) : Option (Unit × MM) := (letB (up2 M G i (M G2 i2)) fun M1 => (letB (up2 M1 G (i + 1) (M1 G2 (i2 + 1))) fun M2 => some ((), M2)))
set_option maxHeartbeats 4000000 in
set_option maxRecDepth 100000 in
theorem c_X6_copyFrom (l : Launch) (g : GD) (M : MM) (o : Nat) (G : Nat) (i : Nat) (o2 : Nat) (G2 : Nat) (i2 : Nat) (hm : MX o G i) (hm2 : MX o2 G2 i2) (r : Unit) (M2 : MM) (h : f_X6_copyFrom M G i G2 i2 = some (r, M2)) : Met l yX6_copyFrom (wm yX6_copyFrom cX6_copyFrom 2 none) (RM 0 0) (va_Pc [rf g (o), rf g (o2)] (WDp g M)) (QV g (fun w0 => M2 = w0)) 0 0 (AA g) := by
  refine mkM (by decide +kernel) (Nat.le_of_ble_eq_true rfl) ?_
  intro p e s m below meth c C hr hlk hW hS ls hl
  have hl : lv_has ls 2 [(0, rf g (o)), (1, rf g (o2))] := hl
  have hx := C.1
  have hb := C.2.1
  have hts := C.2.2.2.2.1
  unfold f_X6_copyFrom at h
  refine lv_aload_n hx hb dX6_copyFrom_0 rfl (lv_at hl 0 rfl) ?_
  refine lv_aload_n hx hb dX6_copyFrom_1 rfl (lv_at hl 1 rfl) ?_
  refine rGet (k := 0) C hW hm2.lt hm2.cel rfl inX6 (by decide) fl_X6_9 rfl dX6_copyFrom_2 ?_
  refine rPut (k := 0) C hW hS hm.lt hm.cel rfl inX6 tyX6_ok nmX6 (by decide) fl_X6_9 rfl (by decide +kernel) (Nat.le_of_ble_eq_true rfl) (hm.up0 _) dX6_copyFrom_5 (fun H locs hW hS => ?_)
  have hW : Wd g (up2 M G i (M G2 i2)) H := hW
  have h := letE h
  generalize up2 M G i (M G2 i2) = M1 at hW h
  refine lv_aload_n hx hb dX6_copyFrom_8 rfl (lv_at hl 0 rfl) ?_
  refine lv_aload_n hx hb dX6_copyFrom_9 rfl (lv_at hl 1 rfl) ?_
  refine rGet (k := 1) C hW hm2.lt hm2.cel rfl inX6 (by decide) fl_X6_15 rfl dX6_copyFrom_10 ?_
  refine rPut (k := 1) C hW hS hm.lt hm.cel rfl inX6 tyX6_ok nmX6 (by decide) fl_X6_15 rfl (by decide +kernel) (Nat.le_of_ble_eq_true rfl) (hm.up1 _) dX6_copyFrom_13 (fun H locs hW hS => ?_)
  have hW : Wd g (up2 M1 G (i + 1) (M1 G2 (i2 + 1))) H := hW
  have h := letE h
  generalize up2 M1 G (i + 1) (M1 G2 (i2 + 1)) = M2 at hW h
  cases h
  exact rV C hr hlk dX6_copyFrom_16 hW hS rfl
def f_X6_empty (M : MM) (G : Nat) (i : Nat) : Option (Unit × MM) := (letB (up2 M G i (0)) fun M1 => (letB (up2 M1 G (i + 1) (0)) fun M2 => some ((), M2)))
set_option maxHeartbeats 4000000 in
set_option maxRecDepth 100000 in
theorem c_X6_empty (l : Launch) (g : GD) (M : MM) (o : Nat) (G : Nat) (i : Nat) (hm : MX o G i) (r : Unit) (M2 : MM) (h : f_X6_empty M G i = some (r, M2)) : Met l yX6_empty (wm yX6_empty cX6_empty 1 none) (RM 0 0) (va_Pc [rf g (o)] (WDp g M)) (QV g (fun w0 => M2 = w0)) 0 0 (AA g) := by
  refine mkM (by decide +kernel) (Nat.le_of_ble_eq_true rfl) ?_
  intro p e s m below meth c C hr hlk hW hS ls hl
  have hl : lv_has ls 1 [(0, rf g (o))] := hl
  have hx := C.1
  have hb := C.2.1
  have hts := C.2.2.2.2.1
  unfold f_X6_empty at h
  refine lv_aload_n hx hb dX6_empty_0 rfl (lv_at hl 0 rfl) ?_
  refine lv_iconst (v := 0) hx hb dX6_empty_1 (by decide) ?_
  refine rPut (k := 0) C hW hS hm.lt hm.cel rfl inX6 tyX6_ok nmX6 (by decide) fl_X6_9 rfl (by decide +kernel) (Nat.le_of_ble_eq_true rfl) (hm.up0 _) dX6_empty_2 (fun H locs hW hS => ?_)
  have hW : Wd g (up2 M G i (0)) H := hW
  have h := letE h
  generalize up2 M G i (0) = M1 at hW h
  refine lv_aload_n hx hb dX6_empty_5 rfl (lv_at hl 0 rfl) ?_
  refine lv_iconst (v := 0) hx hb dX6_empty_6 (by decide) ?_
  refine rPut (k := 1) C hW hS hm.lt hm.cel rfl inX6 tyX6_ok nmX6 (by decide) fl_X6_15 rfl (by decide +kernel) (Nat.le_of_ble_eq_true rfl) (hm.up1 _) dX6_empty_7 (fun H locs hW hS => ?_)
  have hW : Wd g (up2 M1 G (i + 1) (0)) H := hW
  have h := letE h
  generalize up2 M1 G (i + 1) (0) = M2 at hW h
  cases h
  exact rV C hr hlk dX6_empty_10 hW hS rfl
def f_X6_weight (M : MM) (G : Nat) (i : Nat) : Option (Int32 × MM) := some ((M G i) + (M G (i + 1)), M)
set_option maxHeartbeats 4000000 in
set_option maxRecDepth 100000 in
theorem c_X6_weight (l : Launch) (g : GD) (M : MM) (o : Nat) (G : Nat) (i : Nat) (hm : MX o G i) (r : Int32) (M2 : MM) (h : f_X6_weight M G i = some (r, M2)) : Met l yX6_weight (wm yX6_weight cX6_weight 1 (some .int)) (RM 0 0) (va_Pc [rf g (o)] (WDp g M)) (QQ g (fun v w0 => v = .int r ∧ M2 = w0)) 0 0 (AA g) := by
  refine mkM (by decide +kernel) (Nat.le_of_ble_eq_true rfl) ?_
  intro p e s m below meth c C hr hlk hW hS ls hl
  have hl : lv_has ls 1 [(0, rf g (o))] := hl
  have hx := C.1
  have hb := C.2.1
  have hts := C.2.2.2.2.1
  unfold f_X6_weight at h
  refine lv_aload_n hx hb dX6_weight_0 rfl (lv_at hl 0 rfl) ?_
  refine rGet (k := 0) C hW hm.lt hm.cel rfl inX6 (by decide) fl_X6_9 rfl dX6_weight_1 ?_
  refine lv_aload_n hx hb dX6_weight_4 rfl (lv_at hl 0 rfl) ?_
  refine rGet (k := 1) C hW hm.lt hm.cel rfl inX6 (by decide) fl_X6_15 rfl dX6_weight_5 ?_
  refine lv_iadd hx hb dX6_weight_8 ?_
  cases h
  exact rI C hr hlk dX6_weight_9 hW hS ⟨rfl, rfl⟩
def f_X6_alloyOf (M : MM) (x : Int32) (y : Int32) : Option (Int32 × MM) := (if (1 : Int32) ≤ (y : Int32) then (if (Int32.toInt64 (y) : Int64) = 0 then none else some (Int64.toInt32 (((1000) * (Int32.toInt64 (x))) / (Int32.toInt64 (y))), M)) else some (0, M))
set_option maxHeartbeats 4000000 in
set_option maxRecDepth 100000 in
theorem c_X6_alloyOf (l : Launch) (g : GD) (M : MM) (x : Int32) (y : Int32) (r : Int32) (M2 : MM) (h : f_X6_alloyOf M x y = some (r, M2)) : Met l yX6_alloyOf (wm yX6_alloyOf cX6_alloyOf 2 (some .int)) (RM 0 0) (va_Pc [.int (x), .int (y)] (WDp g M)) (QQ g (fun v w0 => v = .int r ∧ M2 = w0)) 0 0 (AA g) := by
  refine mkM (by decide +kernel) (Nat.le_of_ble_eq_true rfl) ?_
  intro p e s m below meth c C hr hlk hW hS ls hl
  have hl : lv_has ls 2 [(0, .int (x)), (1, .int (y))] := hl
  have hx := C.1
  have hb := C.2.1
  have hts := C.2.2.2.2.1
  unfold f_X6_alloyOf at h
  refine lv_iload_n hx hb dX6_alloyOf_0 rfl (lv_at hl 1 rfl) ?_
  refine lv_iconst (v := 1) hx hb dX6_alloyOf_1 (by decide) ?_
  refine lv_icmp_ge (tgt := 9) hx hb dX6_alloyOf_2 (by decide) (fun c1 => ?_) (fun c1 => ?_)
  · rw [if_pos c1] at h
    refine lv_ldc2 hx hb C.2.2.2.1 (C.2.2.2.2.1 _ kc_X6_39) dX6_alloyOf_9 ?_
    refine lv_iload_n hx hb dX6_alloyOf_12 rfl (lv_at hl 0 rfl) ?_
    refine lv_i2l hx hb dX6_alloyOf_13 rfl ?_
    refine lv_lmul hx hb dX6_alloyOf_14 ?_
    refine lv_iload_n hx hb dX6_alloyOf_15 rfl (lv_at hl 1 rfl) ?_
    refine lv_i2l hx hb dX6_alloyOf_16 rfl ?_
    have s2 : ¬ ((Int32.toInt64 (y) : Int64) = 0) := fun q9 => by rw [if_pos q9] at h; cases h
    rw [if_neg s2] at h
    refine lv_ldiv hx hb dX6_alloyOf_17 s2 ?_
    refine lv_l2i hx hb dX6_alloyOf_18 rfl ?_
    cases h
    exact rI C hr hlk dX6_alloyOf_19 hW hS ⟨rfl, rfl⟩
  · rw [if_neg c1] at h
    refine lv_iconst (v := 0) hx hb dX6_alloyOf_5 (by decide) ?_
    refine lv_goto (tgt := 19) hx hb dX6_alloyOf_6 (by decide) ?_
    cases h
    exact rI C hr hlk dX6_alloyOf_19 hW hS ⟨rfl, rfl⟩
def f_X6_alloy (M : MM) (G : Nat) (i : Nat) : Option (Int32 × MM) := (bnd2 (f_X6_weight M G i) fun r1 M2 => (bnd2 (f_X6_alloyOf M2 (M G (i + 1)) r1) fun r4 M5 => some (r4, M5)))
set_option maxHeartbeats 4000000 in
set_option maxRecDepth 100000 in
theorem c_X6_alloy (l : Launch) (g : GD) (M : MM) (o : Nat) (G : Nat) (i : Nat) (hm : MX o G i) (r : Int32) (M2 : MM) (h : f_X6_alloy M G i = some (r, M2)) : Met l yX6_alloy (wm yX6_alloy cX6_alloy 1 (some .int)) (RM 1 21) (va_Pc [rf g (o)] (WDp g M)) (QQ g (fun v w0 => v = .int r ∧ M2 = w0)) 0 0 (AA g) := by
  refine mkM (by decide +kernel) (Nat.le_of_ble_eq_true rfl) ?_
  intro p e s m below meth c C hr hlk hW hS ls hl
  have hl : lv_has ls 1 [(0, rf g (o))] := hl
  have hx := C.1
  have hb := C.2.1
  have hts := C.2.2.2.2.1
  unfold f_X6_alloy at h
  refine lv_aload_n hx hb dX6_alloy_0 rfl (lv_at hl 0 rfl) ?_
  refine rGet (k := 1) C hW hm.lt hm.cel rfl inX6 (by decide) fl_X6_15 rfl dX6_alloy_1 ?_
  refine lv_aload_n hx hb dX6_alloy_4 rfl (lv_at hl 0 rfl) ?_
  obtain ⟨r1, M2, h3, h⟩ := bind2 h
  refine cBack C.2.2.2.2.2.2.2.2 (runV (As := []) (rest := [.int (M G (i + 1))]) C hW hS (c_X6_weight l g M o G i hm _ _ h3) kV_X6_weight ml_X6_18 hm.lt hm.cel rfl rfl rfl hl.1 rfl (Nat.le_of_ble_eq_true rfl) ⟨Nat.le_of_ble_eq_true rfl, Nat.le_of_ble_eq_true rfl⟩ ⟨Nat.zero_le _, Nat.zero_le _⟩ dX6_alloy_5) hS (fun v0 w0 H locs hp hW hS => ?_)
  obtain ⟨rfl, rfl⟩ := hp
  obtain ⟨r4, M5, h6, h⟩ := bind2 h
  refine cBack C.2.2.2.2.2.2.2.2 (runS (As := [.int (M G (i + 1)), .int (r1)]) (rest := []) C hW hS (c_X6_alloyOf l g M2 (M G (i + 1)) r1 _ _ h6) kS_X6_alloyOf ml_X6_22 rfl hl.1 rfl (Nat.le_of_ble_eq_true rfl) ⟨Nat.le_of_ble_eq_true rfl, Nat.le_of_ble_eq_true rfl⟩ ⟨Nat.zero_le _, Nat.zero_le _⟩ dX6_alloy_8) hS (fun v0 w0 H locs hp hW hS => ?_)
  obtain ⟨rfl, rfl⟩ := hp
  cases h
  exact rI C hr hlk dX6_alloy_11 hW hS ⟨rfl, rfl⟩
def f_X6_tell (M : MM) (G : Nat) (i : Nat) (x : Int32) : Option (Int32 × MM) := (if (x : Int32) = 0 then some (M G i, M) else (if (x : Int32) = 1 then some (M G (i + 1), M) else (if (x : Int32) = 2 then (bnd2 (f_X6_weight M G i) fun r4 M5 => some (r4, M5)) else (bnd2 (f_X6_alloy M G i) fun r7 M8 => some (r7, M8)))))
set_option maxHeartbeats 4000000 in
set_option maxRecDepth 100000 in
theorem c_X6_tell (l : Launch) (g : GD) (M : MM) (o : Nat) (G : Nat) (i : Nat) (x : Int32) (hm : MX o G i) (r : Int32) (M2 : MM) (h : f_X6_tell M G i x = some (r, M2)) : Met l yX6_tell (wm yX6_tell cX6_tell 2 (some .int)) (RM 2 41) (va_Pc [rf g (o), .int (x)] (WDp g M)) (QQ g (fun v w0 => v = .int r ∧ M2 = w0)) 0 0 (AA g) := by
  refine mkM (by decide +kernel) (Nat.le_of_ble_eq_true rfl) ?_
  intro p e s m below meth c C hr hlk hW hS ls hl
  have hl : lv_has ls 2 [(0, rf g (o)), (1, .int (x))] := hl
  have hx := C.1
  have hb := C.2.1
  have hts := C.2.2.2.2.1
  unfold f_X6_tell at h
  refine lv_iload_n hx hb dX6_tell_0 rfl (lv_at hl 1 rfl) ?_
  by_cases c1 : (x : Int32) = 0
  · rw [if_pos c1] at h
    refine lv_tableIn (off := 27) (tgt := 28) hx hb dX6_tell_1 (by rw [c1]; decide) (by rw [c1]; decide) (by rw [c1]; rfl) (by decide) ?_
    refine lv_aload_n hx hb dX6_tell_28 rfl (lv_at hl 0 rfl) ?_
    refine rGet (k := 0) C hW hm.lt hm.cel rfl inX6 (by decide) fl_X6_9 rfl dX6_tell_29 ?_
    cases h
    exact rI C hr hlk dX6_tell_32 hW hS ⟨rfl, rfl⟩
  rw [if_neg c1] at h
  by_cases c2 : (x : Int32) = 1
  · rw [if_pos c2] at h
    refine lv_tableIn (off := 32) (tgt := 33) hx hb dX6_tell_1 (by rw [c2]; decide) (by rw [c2]; decide) (by rw [c2]; rfl) (by decide) ?_
    refine lv_aload_n hx hb dX6_tell_33 rfl (lv_at hl 0 rfl) ?_
    refine rGet (k := 1) C hW hm.lt hm.cel rfl inX6 (by decide) fl_X6_15 rfl dX6_tell_34 ?_
    cases h
    exact rI C hr hlk dX6_tell_37 hW hS ⟨rfl, rfl⟩
  rw [if_neg c2] at h
  by_cases c3 : (x : Int32) = 2
  · rw [if_pos c3] at h
    refine lv_tableIn (off := 37) (tgt := 38) hx hb dX6_tell_1 (by rw [c3]; decide) (by rw [c3]; decide) (by rw [c3]; rfl) (by decide) ?_
    refine lv_aload_n hx hb dX6_tell_38 rfl (lv_at hl 0 rfl) ?_
    obtain ⟨r4, M5, h6, h⟩ := bind2 h
    refine cBack C.2.2.2.2.2.2.2.2 (runV (As := []) (rest := []) C hW hS (c_X6_weight l g M o G i hm _ _ h6) kV_X6_weight ml_X6_18 hm.lt hm.cel rfl rfl rfl hl.1 rfl (Nat.le_of_ble_eq_true rfl) ⟨Nat.le_of_ble_eq_true rfl, Nat.le_of_ble_eq_true rfl⟩ ⟨Nat.zero_le _, Nat.zero_le _⟩ dX6_tell_39) hS (fun v0 w0 H locs hp hW hS => ?_)
    obtain ⟨rfl, rfl⟩ := hp
    cases h
    exact rI C hr hlk dX6_tell_42 hW hS ⟨rfl, rfl⟩
  rw [if_neg c3] at h
  refine lv_tableOut (tgt := 43) hx hb dX6_tell_1 (by have nc1 := lv_neT (a := 0) c1 rfl; have nc2 := lv_neT (a := 1) c2 rfl; have nc3 := lv_neT (a := 2) c3 rfl; omega) (by decide) ?_
  refine lv_aload_n hx hb dX6_tell_43 rfl (lv_at hl 0 rfl) ?_
  obtain ⟨r7, M8, h9, h⟩ := bind2 h
  refine cBack C.2.2.2.2.2.2.2.2 (runV (As := []) (rest := []) C hW hS (c_X6_alloy l g M o G i hm _ _ h9) kV_X6_alloy ml_X6_26 hm.lt hm.cel rfl rfl rfl hl.1 rfl (Nat.le_of_ble_eq_true rfl) ⟨Nat.le_of_ble_eq_true rfl, Nat.le_of_ble_eq_true rfl⟩ ⟨Nat.zero_le _, Nat.zero_le _⟩ dX6_tell_44) hS (fun v0 w0 H locs hp hW hS => ?_)
  obtain ⟨rfl, rfl⟩ := hp
  cases h
  exact rI C hr hlk dX6_tell_47 hW hS ⟨rfl, rfl⟩
def f_X6_lossOf (M : MM) (G : Nat) (i : Nat) (x : Int32) (y : Int32) : Option (Int32 × MM) := (bnd2 (f_X6_of M G i x) fun r1 M2 => (bnd2 (f_X10_shareRoundedUp M2 r1 y) fun r4 M5 => some (r4, M5)))
set_option maxHeartbeats 4000000 in
set_option maxRecDepth 100000 in
theorem c_X6_lossOf (l : Launch) (g : GD) (M : MM) (o : Nat) (G : Nat) (i : Nat) (x : Int32) (y : Int32) (hm : MX o G i) (r : Int32) (M2 : MM) (h : f_X6_lossOf M G i x y = some (r, M2)) : Met l yX6_lossOf (wm yX6_lossOf cX6_lossOf 3 (some .int)) (RM 1 21) (va_Pc [rf g (o), .int (x), .int (y)] (WDp g M)) (QQ g (fun v w0 => v = .int r ∧ M2 = w0)) 0 0 (AA g) := by
  refine mkM (by decide +kernel) (Nat.le_of_ble_eq_true rfl) ?_
  intro p e s m below meth c C hr hlk hW hS ls hl
  have hl : lv_has ls 3 [(0, rf g (o)), (1, .int (x)), (2, .int (y))] := hl
  have hx := C.1
  have hb := C.2.1
  have hts := C.2.2.2.2.1
  unfold f_X6_lossOf at h
  refine lv_aload_n hx hb dX6_lossOf_0 rfl (lv_at hl 0 rfl) ?_
  refine lv_iload_n hx hb dX6_lossOf_1 rfl (lv_at hl 1 rfl) ?_
  obtain ⟨r1, M2, h3, h⟩ := bind2 h
  refine cBack C.2.2.2.2.2.2.2.2 (runV (As := [.int (x)]) (rest := []) C hW hS (c_X6_of l g M o G i x hm _ _ h3) kV_X6_of ml_X6_29 hm.lt hm.cel rfl rfl rfl hl.1 rfl (Nat.le_of_ble_eq_true rfl) ⟨Nat.le_of_ble_eq_true rfl, Nat.le_of_ble_eq_true rfl⟩ ⟨Nat.zero_le _, Nat.zero_le _⟩ dX6_lossOf_2) hS (fun v0 w0 H locs hp hW hS => ?_)
  obtain ⟨rfl, rfl⟩ := hp
  refine lv_iload_n hx hb dX6_lossOf_5 rfl (lv_at hl 2 rfl) ?_
  obtain ⟨r4, M5, h6, h⟩ := bind2 h
  refine cBack C.2.2.2.2.2.2.2.2 (runSN (As := [.int (r1), .int (y)]) (rest := []) C hW hS (c_X10_shareRoundedUp l g M2 r1 y _ _ h6) kS_X10_shareRoundedUp ml_X6_33 rfl hl.1 rfl (Nat.le_of_ble_eq_true rfl) ⟨Nat.le_of_ble_eq_true rfl, Nat.le_of_ble_eq_true rfl⟩ ⟨Nat.zero_le _, Nat.zero_le _⟩ dX6_lossOf_6) hS (fun v0 w0 H locs hp hW hS => ?_)
  obtain ⟨rfl, rfl⟩ := hp
  cases h
  exact rI C hr hlk dX6_lossOf_9 hW hS ⟨rfl, rfl⟩
def f_X6_copperOfDraw (M : MM) (G : Nat) (i : Nat) (x : Int32) : Option (Int32 × MM) := (bnd2 (f_X6_weight M G i) fun r1 M2 => (if (1 : Int32) ≤ (r1 : Int32) then (if (r1 : Int32) = 0 then none else some (((x) * (M2 G i)) / (r1), M2)) else some (0, M2)))
set_option maxHeartbeats 4000000 in
set_option maxRecDepth 100000 in
theorem c_X6_copperOfDraw (l : Launch) (g : GD) (M : MM) (o : Nat) (G : Nat) (i : Nat) (x : Int32) (hm : MX o G i) (r : Int32) (M2 : MM) (h : f_X6_copperOfDraw M G i x = some (r, M2)) : Met l yX6_copperOfDraw (wm yX6_copperOfDraw cX6_copperOfDraw 3 (some .int)) (RM 1 20) (va_Pc [rf g (o), .int (x)] (WDp g M)) (QQ g (fun v w0 => v = .int r ∧ M2 = w0)) 0 0 (AA g) := by
  refine mkM (by decide +kernel) (Nat.le_of_ble_eq_true rfl) ?_
  intro p e s m below meth c C hr hlk hW hS ls hl
  have hl : lv_has ls 3 [(0, rf g (o)), (1, .int (x))] := hl
  have hx := C.1
  have hb := C.2.1
  have hts := C.2.2.2.2.1
  unfold f_X6_copperOfDraw at h
  refine lv_aload_n hx hb dX6_copperOfDraw_0 rfl (lv_at hl 0 rfl) ?_
  obtain ⟨r1, M2, h3, h⟩ := bind2 h
  refine cBack C.2.2.2.2.2.2.2.2 (runV (As := []) (rest := []) C hW hS (c_X6_weight l g M o G i hm _ _ h3) kV_X6_weight ml_X6_18 hm.lt hm.cel rfl rfl rfl hl.1 rfl (Nat.le_of_ble_eq_true rfl) ⟨Nat.le_of_ble_eq_true rfl, Nat.le_of_ble_eq_true rfl⟩ ⟨Nat.zero_le _, Nat.zero_le _⟩ dX6_copperOfDraw_1) hS (fun v0 w0 H locs hp hW hS => ?_)
  obtain ⟨rfl, rfl⟩ := hp
  refine lv_istore_n (lv' := [(2, .int (r1)), (0, rf g (o)), (1, .int (x))]) hx hb dX6_copperOfDraw_4 rfl hl (by decide) rfl (fun ls hl => ?_)
  refine lv_iload_n hx hb dX6_copperOfDraw_5 rfl (lv_at hl 0 rfl) ?_
  refine lv_iconst (v := 1) hx hb dX6_copperOfDraw_6 (by decide) ?_
  refine lv_icmp_ge (tgt := 14) hx hb dX6_copperOfDraw_7 (by decide) (fun c4 => ?_) (fun c4 => ?_)
  · rw [if_pos c4] at h
    refine lv_iload_n hx hb dX6_copperOfDraw_14 rfl (lv_at hl 2 rfl) ?_
    refine lv_aload_n hx hb dX6_copperOfDraw_15 rfl (lv_at hl 1 rfl) ?_
    refine rGet (k := 0) C hW hm.lt hm.cel rfl inX6 (by decide) fl_X6_9 rfl dX6_copperOfDraw_16 ?_
    refine lv_imul hx hb dX6_copperOfDraw_19 ?_
    refine lv_iload_n hx hb dX6_copperOfDraw_20 rfl (lv_at hl 0 rfl) ?_
    have s5 : ¬ ((r1 : Int32) = 0) := fun q9 => by rw [if_pos q9] at h; cases h
    rw [if_neg s5] at h
    refine lv_idiv hx hb dX6_copperOfDraw_21 s5 ?_
    cases h
    exact rI C hr hlk dX6_copperOfDraw_22 hW hS ⟨rfl, rfl⟩
  · rw [if_neg c4] at h
    refine lv_iconst (v := 0) hx hb dX6_copperOfDraw_10 (by decide) ?_
    refine lv_goto (tgt := 22) hx hb dX6_copperOfDraw_11 (by decide) ?_
    cases h
    exact rI C hr hlk dX6_copperOfDraw_22 hW hS ⟨rfl, rfl⟩
def f_X6_drawInto (M : MM) (G : Nat) (i : Nat) (G2 : Nat) (i2 : Nat) (x : Int32) : Option (Unit × MM) := (bnd2 (f_X6_copperOfDraw M G i x) fun r1 M2 => (letB (up2 M2 G2 i2 (r1)) fun M4 => (letB (up2 M4 G2 (i2 + 1) ((x) - (r1))) fun M5 => (letB (up2 M5 G i ((M5 G i) - (M5 G2 i2))) fun M6 => (letB (up2 M6 G (i + 1) ((M6 G (i + 1)) - (M6 G2 (i2 + 1)))) fun M7 => some ((), M7))))))
set_option maxHeartbeats 4000000 in
set_option maxRecDepth 100000 in
theorem c_X6_drawInto (l : Launch) (g : GD) (M : MM) (o : Nat) (G : Nat) (i : Nat) (o2 : Nat) (G2 : Nat) (i2 : Nat) (x : Int32) (hm : MX o G i) (hm2 : MX o2 G2 i2) (r : Unit) (M2 : MM) (h : f_X6_drawInto M G i G2 i2 x = some (r, M2)) : Met l yX6_drawInto (wm yX6_drawInto cX6_drawInto 4 none) (RM 2 42) (va_Pc [rf g (o), rf g (o2), .int (x)] (WDp g M)) (QV g (fun w0 => M2 = w0)) 0 0 (AA g) := by
  refine mkM (by decide +kernel) (Nat.le_of_ble_eq_true rfl) ?_
  intro p e s m below meth c C hr hlk hW hS ls hl
  have hl : lv_has ls 4 [(0, rf g (o)), (1, rf g (o2)), (2, .int (x))] := hl
  have hx := C.1
  have hb := C.2.1
  have hts := C.2.2.2.2.1
  unfold f_X6_drawInto at h
  refine lv_aload_n hx hb dX6_drawInto_0 rfl (lv_at hl 0 rfl) ?_
  refine lv_iload_n hx hb dX6_drawInto_1 rfl (lv_at hl 2 rfl) ?_
  obtain ⟨r1, M2, h3, h⟩ := bind2 h
  refine cBack C.2.2.2.2.2.2.2.2 (runV (As := [.int (x)]) (rest := []) C hW hS (c_X6_copperOfDraw l g M o G i x hm _ _ h3) kV_X6_copperOfDraw ml_X6_36 hm.lt hm.cel rfl rfl rfl hl.1 rfl (Nat.le_of_ble_eq_true rfl) ⟨Nat.le_of_ble_eq_true rfl, Nat.le_of_ble_eq_true rfl⟩ ⟨Nat.zero_le _, Nat.zero_le _⟩ dX6_drawInto_2) hS (fun v0 w0 H locs hp hW hS => ?_)
  obtain ⟨rfl, rfl⟩ := hp
  refine lv_istore_n (lv' := [(3, .int (r1)), (0, rf g (o)), (1, rf g (o2)), (2, .int (x))]) hx hb dX6_drawInto_5 rfl hl (by decide) rfl (fun ls hl => ?_)
  refine lv_aload_n hx hb dX6_drawInto_6 rfl (lv_at hl 2 rfl) ?_
  refine lv_iload_n hx hb dX6_drawInto_7 rfl (lv_at hl 0 rfl) ?_
  refine rPut (k := 0) C hW hS hm2.lt hm2.cel rfl inX6 tyX6_ok nmX6 (by decide) fl_X6_9 rfl (by decide +kernel) (Nat.le_of_ble_eq_true rfl) (hm2.up0 _) dX6_drawInto_8 (fun H locs hW hS => ?_)
  have hW : Wd g (up2 M2 G2 i2 (r1)) H := hW
  have h := letE h
  generalize up2 M2 G2 i2 (r1) = M4 at hW h
  refine lv_aload_n hx hb dX6_drawInto_11 rfl (lv_at hl 2 rfl) ?_
  refine lv_iload_n hx hb dX6_drawInto_12 rfl (lv_at hl 3 rfl) ?_
  refine lv_iload_n hx hb dX6_drawInto_13 rfl (lv_at hl 0 rfl) ?_
  refine lv_isub hx hb dX6_drawInto_14 ?_
  refine rPut (k := 1) C hW hS hm2.lt hm2.cel rfl inX6 tyX6_ok nmX6 (by decide) fl_X6_15 rfl (by decide +kernel) (Nat.le_of_ble_eq_true rfl) (hm2.up1 _) dX6_drawInto_15 (fun H locs hW hS => ?_)
  have hW : Wd g (up2 M4 G2 (i2 + 1) ((x) - (r1))) H := hW
  have h := letE h
  generalize up2 M4 G2 (i2 + 1) ((x) - (r1)) = M5 at hW h
  refine lv_aload_n hx hb dX6_drawInto_18 rfl (lv_at hl 1 rfl) ?_
  refine lv_dup hx hb dX6_drawInto_19 rfl ?_
  refine rGet (k := 0) C hW hm.lt hm.cel rfl inX6 (by decide) fl_X6_9 rfl dX6_drawInto_20 ?_
  refine lv_aload_n hx hb dX6_drawInto_23 rfl (lv_at hl 2 rfl) ?_
  refine rGet (k := 0) C hW hm2.lt hm2.cel rfl inX6 (by decide) fl_X6_9 rfl dX6_drawInto_24 ?_
  refine lv_isub hx hb dX6_drawInto_27 ?_
  refine rPut (k := 0) C hW hS hm.lt hm.cel rfl inX6 tyX6_ok nmX6 (by decide) fl_X6_9 rfl (by decide +kernel) (Nat.le_of_ble_eq_true rfl) (hm.up0 _) dX6_drawInto_28 (fun H locs hW hS => ?_)
  have hW : Wd g (up2 M5 G i ((M5 G i) - (M5 G2 i2))) H := hW
  have h := letE h
  generalize up2 M5 G i ((M5 G i) - (M5 G2 i2)) = M6 at hW h
  refine lv_aload_n hx hb dX6_drawInto_31 rfl (lv_at hl 1 rfl) ?_
  refine lv_dup hx hb dX6_drawInto_32 rfl ?_
  refine rGet (k := 1) C hW hm.lt hm.cel rfl inX6 (by decide) fl_X6_15 rfl dX6_drawInto_33 ?_
  refine lv_aload_n hx hb dX6_drawInto_36 rfl (lv_at hl 2 rfl) ?_
  refine rGet (k := 1) C hW hm2.lt hm2.cel rfl inX6 (by decide) fl_X6_15 rfl dX6_drawInto_37 ?_
  refine lv_isub hx hb dX6_drawInto_40 ?_
  refine rPut (k := 1) C hW hS hm.lt hm.cel rfl inX6 tyX6_ok nmX6 (by decide) fl_X6_15 rfl (by decide +kernel) (Nat.le_of_ble_eq_true rfl) (hm.up1 _) dX6_drawInto_41 (fun H locs hW hS => ?_)
  have hW : Wd g (up2 M6 G (i + 1) ((M6 G (i + 1)) - (M6 G2 (i2 + 1)))) H := hW
  have h := letE h
  generalize up2 M6 G (i + 1) ((M6 G (i + 1)) - (M6 G2 (i2 + 1))) = M7 at hW h
  cases h
  exact rV C hr hlk dX6_drawInto_44 hW hS rfl
def f_X6_alloyOfDraw (M : MM) (G : Nat) (i : Nat) (x : Int32) : Option (Int32 × MM) := (bnd2 (f_X6_copperOfDraw M G i x) fun r1 M2 => (bnd2 (f_X6_alloyOf M2 ((x) - (r1)) x) fun r4 M5 => some (r4, M5)))
set_option maxHeartbeats 4000000 in
set_option maxRecDepth 100000 in
theorem c_X6_alloyOfDraw (l : Launch) (g : GD) (M : MM) (o : Nat) (G : Nat) (i : Nat) (x : Int32) (hm : MX o G i) (r : Int32) (M2 : MM) (h : f_X6_alloyOfDraw M G i x = some (r, M2)) : Met l yX6_alloyOfDraw (wm yX6_alloyOfDraw cX6_alloyOfDraw 2 (some .int)) (RM 2 42) (va_Pc [rf g (o), .int (x)] (WDp g M)) (QQ g (fun v w0 => v = .int r ∧ M2 = w0)) 0 0 (AA g) := by
  refine mkM (by decide +kernel) (Nat.le_of_ble_eq_true rfl) ?_
  intro p e s m below meth c C hr hlk hW hS ls hl
  have hl : lv_has ls 2 [(0, rf g (o)), (1, .int (x))] := hl
  have hx := C.1
  have hb := C.2.1
  have hts := C.2.2.2.2.1
  unfold f_X6_alloyOfDraw at h
  refine lv_iload_n hx hb dX6_alloyOfDraw_0 rfl (lv_at hl 1 rfl) ?_
  refine lv_aload_n hx hb dX6_alloyOfDraw_1 rfl (lv_at hl 0 rfl) ?_
  refine lv_iload_n hx hb dX6_alloyOfDraw_2 rfl (lv_at hl 1 rfl) ?_
  obtain ⟨r1, M2, h3, h⟩ := bind2 h
  refine cBack C.2.2.2.2.2.2.2.2 (runV (As := [.int (x)]) (rest := [.int (x)]) C hW hS (c_X6_copperOfDraw l g M o G i x hm _ _ h3) kV_X6_copperOfDraw ml_X6_36 hm.lt hm.cel rfl rfl rfl hl.1 rfl (Nat.le_of_ble_eq_true rfl) ⟨Nat.le_of_ble_eq_true rfl, Nat.le_of_ble_eq_true rfl⟩ ⟨Nat.zero_le _, Nat.zero_le _⟩ dX6_alloyOfDraw_3) hS (fun v0 w0 H locs hp hW hS => ?_)
  obtain ⟨rfl, rfl⟩ := hp
  refine lv_isub hx hb dX6_alloyOfDraw_6 ?_
  refine lv_iload_n hx hb dX6_alloyOfDraw_7 rfl (lv_at hl 1 rfl) ?_
  obtain ⟨r4, M5, h6, h⟩ := bind2 h
  refine cBack C.2.2.2.2.2.2.2.2 (runS (As := [.int ((x) - (r1)), .int (x)]) (rest := []) C hW hS (c_X6_alloyOf l g M2 ((x) - (r1)) x _ _ h6) kS_X6_alloyOf ml_X6_22 rfl hl.1 rfl (Nat.le_of_ble_eq_true rfl) ⟨Nat.le_of_ble_eq_true rfl, Nat.le_of_ble_eq_true rfl⟩ ⟨Nat.zero_le _, Nat.zero_le _⟩ dX6_alloyOfDraw_8) hS (fun v0 w0 H locs hp hW hS => ?_)
  obtain ⟨rfl, rfl⟩ := hp
  cases h
  exact rI C hr hlk dX6_alloyOfDraw_11 hW hS ⟨rfl, rfl⟩
def f_X0_remains (M : MM) (k : Nat) (j : Nat) : Option (Int32 × MM) := (if (M k (60 + 8 * j) : Int32) = 0 then some (1, M) else (if (M k (60 + 8 * j) : Int32) = (1 : Int32) then some (1, M) else some (0, M)))
set_option maxHeartbeats 4000000 in
set_option maxRecDepth 100000 in
theorem c_X0_remains (l : Launch) (g : GD) (M : MM) (k : Nat) (j : Nat) (hk : k < 5) (hj : j < 100) (r : Int32) (M2 : MM) (h : f_X0_remains M k j = some (r, M2)) : Met l yX0_remains (wm yX0_remains cX0_remains 1 (some .boolean)) (RM 0 0) (va_Pc [rf g (wB k + (36 + 2 * j))] (WDp g M)) (QQ g (fun v w0 => v = .int r ∧ M2 = w0 ∧ (r = 0 ∨ r = 1))) 0 0 (AA g) := by
  refine mkM (by decide +kernel) (Nat.le_of_ble_eq_true rfl) ?_
  intro p e s m below meth c C hr hlk hW hS ls hl
  have hl : lv_has ls 1 [(0, rf g (wB k + (36 + 2 * j)))] := hl
  have hx := C.1
  have hb := C.2.1
  have hts := C.2.2.2.2.1
  unfold f_X0_remains at h
  refine lv_aload_n hx hb dX0_remains_0 rfl (lv_at hl 0 rfl) ?_
  refine rGet (k := 5) C hW (wB_lt hk (by have := hj; omega)) (tm_Bell hk hj) rfl inX0 (by decide) fl_X0_31 rfl dX0_remains_1 ?_
  refine lv_if_eq (tgt := 15) hx hb dX0_remains_4 (by decide) (fun c1 => ?_) (fun c1 => ?_)
  · rw [if_pos c1] at h
    refine lv_iconst (v := 1) hx hb dX0_remains_15 (by decide) ?_
    refine lv_goto (tgt := 20) hx hb dX0_remains_16 (by decide) ?_
    cases h
    exact rZ C hr hlk dX0_remains_20 hW hS (nar01 (Or.inr rfl)) ⟨rfl, rfl, (Or.inr rfl)⟩
  · rw [if_neg c1] at h
    refine lv_aload_n hx hb dX0_remains_7 rfl (lv_at hl 0 rfl) ?_
    refine rGet (k := 5) C hW (wB_lt hk (by have := hj; omega)) (tm_Bell hk hj) rfl inX0 (by decide) fl_X0_31 rfl dX0_remains_8 ?_
    refine lv_iconst (v := 1) hx hb dX0_remains_11 (by decide) ?_
    refine lv_icmp_ne (tgt := 19) hx hb dX0_remains_12 (by decide) (fun c2 => ?_) (fun c2 => ?_)
    · rw [if_neg c2] at h
      refine lv_iconst (v := 0) hx hb dX0_remains_19 (by decide) ?_
      cases h
      exact rZ C hr hlk dX0_remains_20 hW hS (nar01 (Or.inl rfl)) ⟨rfl, rfl, (Or.inl rfl)⟩
    · rw [if_pos c2] at h
      refine lv_iconst (v := 1) hx hb dX0_remains_15 (by decide) ?_
      refine lv_goto (tgt := 20) hx hb dX0_remains_16 (by decide) ?_
      cases h
      exact rZ C hr hlk dX0_remains_20 hW hS (nar01 (Or.inr rfl)) ⟨rfl, rfl, (Or.inr rfl)⟩
def f_X0_cracksBy (M : MM) (k : Nat) (j : Nat) (x : Int32) : Option (Int32 × MM) := (if (M k (56 + 8 * j) : Int32) = (2 : Int32) then (if ((M k (59 + 8 * j)) + (x) : Int32) ≤ ((M k (58 + 8 * j)) / (20) : Int32) then some (0, M) else some (1, M)) else (if ((M k (59 + 8 * j)) + (x) : Int32) ≤ ((M k (58 + 8 * j)) / (10) : Int32) then some (0, M) else some (1, M)))
set_option maxHeartbeats 4000000 in
set_option maxRecDepth 100000 in
theorem c_X0_cracksBy (l : Launch) (g : GD) (M : MM) (k : Nat) (j : Nat) (x : Int32) (hk : k < 5) (hj : j < 100) (r : Int32) (M2 : MM) (h : f_X0_cracksBy M k j x = some (r, M2)) : Met l yX0_cracksBy (wm yX0_cracksBy cX0_cracksBy 2 (some .boolean)) (RM 0 0) (va_Pc [rf g (wB k + (36 + 2 * j)), .int (x)] (WDp g M)) (QQ g (fun v w0 => v = .int r ∧ M2 = w0 ∧ (r = 0 ∨ r = 1))) 0 0 (AA g) := by
  refine mkM (by decide +kernel) (Nat.le_of_ble_eq_true rfl) ?_
  intro p e s m below meth c C hr hlk hW hS ls hl
  have hl : lv_has ls 2 [(0, rf g (wB k + (36 + 2 * j))), (1, .int (x))] := hl
  have hx := C.1
  have hb := C.2.1
  have hts := C.2.2.2.2.1
  unfold f_X0_cracksBy at h
  refine lv_aload_n hx hb dX0_cracksBy_0 rfl (lv_at hl 0 rfl) ?_
  refine rGet (k := 4) C hW (wB_lt hk (by have := hj; omega)) (tm_Bell hk hj) rfl inX0 (by decide) fl_X0_28 rfl dX0_cracksBy_1 ?_
  refine lv_iload_n hx hb dX0_cracksBy_4 rfl (lv_at hl 1 rfl) ?_
  refine lv_iadd hx hb dX0_cracksBy_5 ?_
  refine lv_aload_n hx hb dX0_cracksBy_6 rfl (lv_at hl 0 rfl) ?_
  refine rGet (k := 3) C hW (wB_lt hk (by have := hj; omega)) (tm_Bell hk hj) rfl inX0 (by decide) fl_X0_25 rfl dX0_cracksBy_7 ?_
  refine lv_aload_n hx hb dX0_cracksBy_10 rfl (lv_at hl 0 rfl) ?_
  refine rGet (k := 1) C hW (wB_lt hk (by have := hj; omega)) (tm_Bell hk hj) rfl inX0 (by decide) fl_X0_18 rfl dX0_cracksBy_11 ?_
  refine lv_iconst (v := 2) hx hb dX0_cracksBy_14 (by decide) ?_
  refine lv_icmp_ne (tgt := 23) hx hb dX0_cracksBy_15 (by decide) (fun c1 => ?_) (fun c1 => ?_)
  · rw [if_neg c1] at h
    refine lv_bipush (v := 10) hx hb dX0_cracksBy_23 (by decide) ?_
    refine lv_idiv hx hb dX0_cracksBy_25 (by decide) ?_
    refine lv_icmp_le (tgt := 33) hx hb dX0_cracksBy_26 (by decide) (fun c3 => ?_) (fun c3 => ?_)
    · rw [if_pos c3] at h
      refine lv_iconst (v := 0) hx hb dX0_cracksBy_33 (by decide) ?_
      cases h
      exact rZ C hr hlk dX0_cracksBy_34 hW hS (nar01 (Or.inl rfl)) ⟨rfl, rfl, (Or.inl rfl)⟩
    · rw [if_neg c3] at h
      refine lv_iconst (v := 1) hx hb dX0_cracksBy_29 (by decide) ?_
      refine lv_goto (tgt := 34) hx hb dX0_cracksBy_30 (by decide) ?_
      cases h
      exact rZ C hr hlk dX0_cracksBy_34 hW hS (nar01 (Or.inr rfl)) ⟨rfl, rfl, (Or.inr rfl)⟩
  · rw [if_pos c1] at h
    refine lv_bipush (v := 20) hx hb dX0_cracksBy_18 (by decide) ?_
    refine lv_goto (tgt := 25) hx hb dX0_cracksBy_20 (by decide) ?_
    refine lv_idiv hx hb dX0_cracksBy_25 (by decide) ?_
    refine lv_icmp_le (tgt := 33) hx hb dX0_cracksBy_26 (by decide) (fun c5 => ?_) (fun c5 => ?_)
    · rw [if_pos c5] at h
      refine lv_iconst (v := 0) hx hb dX0_cracksBy_33 (by decide) ?_
      cases h
      exact rZ C hr hlk dX0_cracksBy_34 hW hS (nar01 (Or.inl rfl)) ⟨rfl, rfl, (Or.inl rfl)⟩
    · rw [if_neg c5] at h
      refine lv_iconst (v := 1) hx hb dX0_cracksBy_29 (by decide) ?_
      refine lv_goto (tgt := 34) hx hb dX0_cracksBy_30 (by decide) ?_
      cases h
      exact rZ C hr hlk dX0_cracksBy_34 hW hS (nar01 (Or.inr rfl)) ⟨rfl, rfl, (Or.inr rfl)⟩
def f_X0_pitchBehind (M : MM) (k : Nat) (j : Nat) (x : Int32) (y : Int32) : Option (Int32 × MM) := (bnd2 (f_X6_weight M k (54 + 8 * j)) fun r1 M2 => (if (jmax (1) (r1) : Int32) = 0 then none else some (jmax (1) ((M k (57 + 8 * j)) - ((((y) * (1000)) * (x)) / (jmax (1) (r1)))), M2)))
set_option maxHeartbeats 4000000 in
set_option maxRecDepth 100000 in
theorem c_X0_pitchBehind (l : Launch) (g : GD) (M : MM) (k : Nat) (j : Nat) (x : Int32) (y : Int32) (hk : k < 5) (hj : j < 100) (r : Int32) (M2 : MM) (h : f_X0_pitchBehind M k j x y = some (r, M2)) : Met l yX0_pitchBehind (wm yX0_pitchBehind cX0_pitchBehind 3 (some .int)) (RM 1 40) (va_Pc [rf g (wB k + (36 + 2 * j)), .int (x), .int (y)] (WDp g M)) (QQ g (fun v w0 => v = .int r ∧ M2 = w0)) 0 0 (AA g) := by
  refine mkM (by decide +kernel) (Nat.le_of_ble_eq_true rfl) ?_
  intro p e s m below meth c C hr hlk hW hS ls hl
  have hl : lv_has ls 3 [(0, rf g (wB k + (36 + 2 * j))), (1, .int (x)), (2, .int (y))] := hl
  have hx := C.1
  have hb := C.2.1
  have hts := C.2.2.2.2.1
  unfold f_X0_pitchBehind at h
  refine lv_iconst (v := 1) hx hb dX0_pitchBehind_0 (by decide) ?_
  refine lv_aload_n hx hb dX0_pitchBehind_1 rfl (lv_at hl 0 rfl) ?_
  refine rGet (k := 2) C hW (wB_lt hk (by have := hj; omega)) (tm_Bell hk hj) rfl inX0 (by decide) fl_X0_22 rfl dX0_pitchBehind_2 ?_
  refine lv_iload_n hx hb dX0_pitchBehind_5 rfl (lv_at hl 2 rfl) ?_
  refine lv_sipush (v := 1000) hx hb dX0_pitchBehind_6 (by decide) ?_
  refine lv_imul hx hb dX0_pitchBehind_9 ?_
  refine lv_iload_n hx hb dX0_pitchBehind_10 rfl (lv_at hl 1 rfl) ?_
  refine lv_imul hx hb dX0_pitchBehind_11 ?_
  refine lv_iconst (v := 1) hx hb dX0_pitchBehind_12 (by decide) ?_
  refine lv_aload_n hx hb dX0_pitchBehind_13 rfl (lv_at hl 0 rfl) ?_
  refine rGet (k := 0) C hW (wB_lt hk (by have := hj; omega)) (tm_Bell hk hj) rfl inX0 (by decide) fl_X0_12 rfl dX0_pitchBehind_14 ?_
  obtain ⟨r1, M2, h3, h⟩ := bind2 h
  refine cBack C.2.2.2.2.2.2.2.2 (runV (As := []) (rest := [.int (1), .int (((y) * (1000)) * (x)), .int (M k (57 + 8 * j)), .int (1)]) C hW hS (c_X6_weight l g M (wB k + (37 + 2 * j)) k (54 + 8 * j) (MX_bell hk hj) _ _ h3) kV_X6_weight ml_X0_37 (MX_bell hk hj).lt (MX_bell hk hj).cel rfl rfl rfl hl.1 rfl (Nat.le_of_ble_eq_true rfl) ⟨Nat.le_of_ble_eq_true rfl, Nat.le_of_ble_eq_true rfl⟩ ⟨Nat.zero_le _, Nat.zero_le _⟩ dX0_pitchBehind_17) hS (fun v0 w0 H locs hp hW hS => ?_)
  obtain ⟨rfl, rfl⟩ := hp
  refine va_mmax hx hb (C.2.2.1.trans hl.1.symm) C.2.2.2.1 (hts _ ml_X0_41) (hts _ st_max) (hts _ in_J9) (hts _ co_max) (Nat.le_of_ble_eq_true rfl) (Nat.le_of_ble_eq_true rfl) (Nat.zero_le _) (Nat.zero_le _) dX0_pitchBehind_20 ?_
  have s4 : ¬ ((jmax (1) (r1) : Int32) = 0) := fun q9 => by rw [if_pos q9] at h; cases h
  rw [if_neg s4] at h
  refine lv_idiv hx hb dX0_pitchBehind_23 s4 ?_
  refine lv_isub hx hb dX0_pitchBehind_24 ?_
  refine va_mmax hx hb (C.2.2.1.trans hl.1.symm) C.2.2.2.1 (hts _ ml_X0_41) (hts _ st_max) (hts _ in_J9) (hts _ co_max) (Nat.le_of_ble_eq_true rfl) (Nat.le_of_ble_eq_true rfl) (Nat.zero_le _) (Nat.zero_le _) dX0_pitchBehind_25 ?_
  cases h
  exact rI C hr hlk dX0_pitchBehind_28 hW hS ⟨rfl, rfl⟩
def f_X0_copyFrom (M : MM) (k : Nat) (j : Nat) (k2 : Nat) (j2 : Nat) : Option (Unit × MM) := (bnd2 (f_X6_copyFrom M k (54 + 8 * j) k2 (54 + 8 * j2)) fun r1 M2 => (letB (up2 M2 k (56 + 8 * j) (M2 k2 (56 + 8 * j2))) fun M4 => (letB (up2 M4 k (57 + 8 * j) (M4 k2 (57 + 8 * j2))) fun M5 => (letB (up2 M5 k (58 + 8 * j) (M5 k2 (58 + 8 * j2))) fun M6 => (letB (up2 M6 k (59 + 8 * j) (M6 k2 (59 + 8 * j2))) fun M7 => (letB (up2 M7 k (60 + 8 * j) (M7 k2 (60 + 8 * j2))) fun M8 => (letB (up2 M8 k (61 + 8 * j) (M8 k2 (61 + 8 * j2))) fun M9 => some ((), M9))))))))
set_option maxHeartbeats 4000000 in
set_option maxRecDepth 100000 in
theorem c_X0_copyFrom (l : Launch) (g : GD) (M : MM) (k : Nat) (j : Nat) (k2 : Nat) (j2 : Nat) (hk : k < 5) (hj : j < 100) (hk2 : k2 < 5) (hj2 : j2 < 100) (r : Unit) (M2 : MM) (h : f_X0_copyFrom M k j k2 j2 = some (r, M2)) : Met l yX0_copyFrom (wm yX0_copyFrom cX0_copyFrom 2 none) (RM 1 21) (va_Pc [rf g (wB k + (36 + 2 * j)), rf g (wB k2 + (36 + 2 * j2))] (WDp g M)) (QV g (fun w0 => M2 = w0)) 0 0 (AA g) := by
  refine mkM (by decide +kernel) (Nat.le_of_ble_eq_true rfl) ?_
  intro p e s m below meth c C hr hlk hW hS ls hl
  have hl : lv_has ls 2 [(0, rf g (wB k + (36 + 2 * j))), (1, rf g (wB k2 + (36 + 2 * j2)))] := hl
  have hx := C.1
  have hb := C.2.1
  have hts := C.2.2.2.2.1
  unfold f_X0_copyFrom at h
  refine lv_aload_n hx hb dX0_copyFrom_0 rfl (lv_at hl 0 rfl) ?_
  refine rGet (k := 0) C hW (wB_lt hk (by have := hj; omega)) (tm_Bell hk hj) rfl inX0 (by decide) fl_X0_12 rfl dX0_copyFrom_1 ?_
  refine lv_aload_n hx hb dX0_copyFrom_4 rfl (lv_at hl 1 rfl) ?_
  refine rGet (k := 0) C hW (wB_lt hk2 (by have := hj2; omega)) (tm_Bell hk2 hj2) rfl inX0 (by decide) fl_X0_12 rfl dX0_copyFrom_5 ?_
  obtain ⟨r1, M2, h3, h⟩ := bind2 h
  refine cBackV C.2.2.2.2.2.2.2.2 (runV (As := [rf g (wB k2 + (37 + 2 * j2))]) (rest := []) C hW hS (c_X6_copyFrom l g M (wB k + (37 + 2 * j)) k (54 + 8 * j) (wB k2 + (37 + 2 * j2)) k2 (54 + 8 * j2) (MX_bell hk hj) (MX_bell hk2 hj2) _ _ h3) kV_X6_copyFrom ml_X0_47 (MX_bell hk hj).lt (MX_bell hk hj).cel rfl rfl rfl hl.1 rfl (Nat.le_of_ble_eq_true rfl) ⟨Nat.le_of_ble_eq_true rfl, Nat.le_of_ble_eq_true rfl⟩ ⟨Nat.zero_le _, Nat.zero_le _⟩ dX0_copyFrom_8) hS (fun v0 H locs hp hW hS => ?_)
  subst hp
  refine lv_aload_n hx hb dX0_copyFrom_11 rfl (lv_at hl 0 rfl) ?_
  refine lv_aload_n hx hb dX0_copyFrom_12 rfl (lv_at hl 1 rfl) ?_
  refine rGet (k := 1) C hW (wB_lt hk2 (by have := hj2; omega)) (tm_Bell hk2 hj2) rfl inX0 (by decide) fl_X0_18 rfl dX0_copyFrom_13 ?_
  refine rPut (k := 1) C hW hS (wB_lt hk (by have := hj; omega)) (tm_Bell hk hj) rfl inX0 tyX0_ok nmX0 (by decide) fl_X0_18 rfl (by decide +kernel) (Nat.le_of_ble_eq_true rfl) (upd_Bell_profile hk hj _) dX0_copyFrom_16 (fun H locs hW hS => ?_)
  have hW : Wd g (up2 M2 k (56 + 8 * j) (M2 k2 (56 + 8 * j2))) H := hW
  have h := letE h
  generalize up2 M2 k (56 + 8 * j) (M2 k2 (56 + 8 * j2)) = M4 at hW h
  refine lv_aload_n hx hb dX0_copyFrom_19 rfl (lv_at hl 0 rfl) ?_
  refine lv_aload_n hx hb dX0_copyFrom_20 rfl (lv_at hl 1 rfl) ?_
  refine rGet (k := 2) C hW (wB_lt hk2 (by have := hj2; omega)) (tm_Bell hk2 hj2) rfl inX0 (by decide) fl_X0_22 rfl dX0_copyFrom_21 ?_
  refine rPut (k := 2) C hW hS (wB_lt hk (by have := hj; omega)) (tm_Bell hk hj) rfl inX0 tyX0_ok nmX0 (by decide) fl_X0_22 rfl (by decide +kernel) (Nat.le_of_ble_eq_true rfl) (upd_Bell_pitch hk hj _) dX0_copyFrom_24 (fun H locs hW hS => ?_)
  have hW : Wd g (up2 M4 k (57 + 8 * j) (M4 k2 (57 + 8 * j2))) H := hW
  have h := letE h
  generalize up2 M4 k (57 + 8 * j) (M4 k2 (57 + 8 * j2)) = M5 at hW h
  refine lv_aload_n hx hb dX0_copyFrom_27 rfl (lv_at hl 0 rfl) ?_
  refine lv_aload_n hx hb dX0_copyFrom_28 rfl (lv_at hl 1 rfl) ?_
  refine rGet (k := 3) C hW (wB_lt hk2 (by have := hj2; omega)) (tm_Bell hk2 hj2) rfl inX0 (by decide) fl_X0_25 rfl dX0_copyFrom_29 ?_
  refine rPut (k := 3) C hW hS (wB_lt hk (by have := hj; omega)) (tm_Bell hk hj) rfl inX0 tyX0_ok nmX0 (by decide) fl_X0_25 rfl (by decide +kernel) (Nat.le_of_ble_eq_true rfl) (upd_Bell_weightPoured hk hj _) dX0_copyFrom_32 (fun H locs hW hS => ?_)
  have hW : Wd g (up2 M5 k (58 + 8 * j) (M5 k2 (58 + 8 * j2))) H := hW
  have h := letE h
  generalize up2 M5 k (58 + 8 * j) (M5 k2 (58 + 8 * j2)) = M6 at hW h
  refine lv_aload_n hx hb dX0_copyFrom_35 rfl (lv_at hl 0 rfl) ?_
  refine lv_aload_n hx hb dX0_copyFrom_36 rfl (lv_at hl 1 rfl) ?_
  refine rGet (k := 4) C hW (wB_lt hk2 (by have := hj2; omega)) (tm_Bell hk2 hj2) rfl inX0 (by decide) fl_X0_28 rfl dX0_copyFrom_37 ?_
  refine rPut (k := 4) C hW hS (wB_lt hk (by have := hj; omega)) (tm_Bell hk hj) rfl inX0 tyX0_ok nmX0 (by decide) fl_X0_28 rfl (by decide +kernel) (Nat.le_of_ble_eq_true rfl) (upd_Bell_drawn hk hj _) dX0_copyFrom_40 (fun H locs hW hS => ?_)
  have hW : Wd g (up2 M6 k (59 + 8 * j) (M6 k2 (59 + 8 * j2))) H := hW
  have h := letE h
  generalize up2 M6 k (59 + 8 * j) (M6 k2 (59 + 8 * j2)) = M7 at hW h
  refine lv_aload_n hx hb dX0_copyFrom_43 rfl (lv_at hl 0 rfl) ?_
  refine lv_aload_n hx hb dX0_copyFrom_44 rfl (lv_at hl 1 rfl) ?_
  refine rGet (k := 5) C hW (wB_lt hk2 (by have := hj2; omega)) (tm_Bell hk2 hj2) rfl inX0 (by decide) fl_X0_31 rfl dX0_copyFrom_45 ?_
  refine rPut (k := 5) C hW hS (wB_lt hk (by have := hj; omega)) (tm_Bell hk hj) rfl inX0 tyX0_ok nmX0 (by decide) fl_X0_31 rfl (by decide +kernel) (Nat.le_of_ble_eq_true rfl) (upd_Bell_state hk hj _) dX0_copyFrom_48 (fun H locs hW hS => ?_)
  have hW : Wd g (up2 M7 k (60 + 8 * j) (M7 k2 (60 + 8 * j2))) H := hW
  have h := letE h
  generalize up2 M7 k (60 + 8 * j) (M7 k2 (60 + 8 * j2)) = M8 at hW h
  refine lv_aload_n hx hb dX0_copyFrom_51 rfl (lv_at hl 0 rfl) ?_
  refine lv_aload_n hx hb dX0_copyFrom_52 rfl (lv_at hl 1 rfl) ?_
  refine rGet (k := 6) C hW (wB_lt hk2 (by have := hj2; omega)) (tm_Bell hk2 hj2) rfl inX0 (by decide) fl_X0_34 rfl dX0_copyFrom_53 ?_
  refine rPut (k := 6) C hW hS (wB_lt hk (by have := hj; omega)) (tm_Bell hk hj) rfl inX0 tyX0_ok nmX0 (by decide) fl_X0_34 rfl (by decide +kernel) (Nat.le_of_ble_eq_true rfl) (upd_Bell_order hk hj _) dX0_copyFrom_56 (fun H locs hW hS => ?_)
  have hW : Wd g (up2 M8 k (61 + 8 * j) (M8 k2 (61 + 8 * j2))) H := hW
  have h := letE h
  generalize up2 M8 k (61 + 8 * j) (M8 k2 (61 + 8 * j2)) = M9 at hW h
  cases h
  exact rV C hr hlk dX0_copyFrom_59 hW hS rfl
def f_X7_takesPitch (M : MM) (k : Nat) (w : Nat) (x : Int32) : Option (Int32 × MM) := (if (M k (856 + 4 * w) : Int32) < (jabs ((x) - (M k (855 + 4 * w))) : Int32) then some (0, M) else some (1, M))
set_option maxHeartbeats 4000000 in
set_option maxRecDepth 100000 in
theorem c_X7_takesPitch (l : Launch) (g : GD) (M : MM) (k : Nat) (w : Nat) (x : Int32) (hk : k < 5) (hw : w < 100) (r : Int32) (M2 : MM) (h : f_X7_takesPitch M k w x = some (r, M2)) : Met l yX7_takesPitch (wm yX7_takesPitch cX7_takesPitch 2 (some .boolean)) (RM 1 40) (va_Pc [rf g (wB k + (236 + w)), .int (x)] (WDp g M)) (QQ g (fun v w0 => v = .int r ∧ M2 = w0 ∧ (r = 0 ∨ r = 1))) 0 0 (AA g) := by
  refine mkM (by decide +kernel) (Nat.le_of_ble_eq_true rfl) ?_
  intro p e s m below meth c C hr hlk hW hS ls hl
  have hl : lv_has ls 2 [(0, rf g (wB k + (236 + w))), (1, .int (x))] := hl
  have hx := C.1
  have hb := C.2.1
  have hts := C.2.2.2.2.1
  unfold f_X7_takesPitch at h
  refine lv_iload_n hx hb dX7_takesPitch_0 rfl (lv_at hl 1 rfl) ?_
  refine lv_aload_n hx hb dX7_takesPitch_1 rfl (lv_at hl 0 rfl) ?_
  refine rGet (k := 1) C hW (wB_lt hk (by have := hw; omega)) (tm_Order hk hw) rfl inX7 (by decide) fl_X7_15 rfl dX7_takesPitch_2 ?_
  refine lv_isub hx hb dX7_takesPitch_5 ?_
  refine va_mabs hx hb (C.2.2.1.trans hl.1.symm) C.2.2.2.1 (hts _ ml_X7_24) (hts _ st_abs) (hts _ in_J9) (hts _ co_abs) (Nat.le_of_ble_eq_true rfl) (Nat.le_of_ble_eq_true rfl) (Nat.zero_le _) (Nat.zero_le _) dX7_takesPitch_6 ?_
  refine lv_aload_n hx hb dX7_takesPitch_9 rfl (lv_at hl 0 rfl) ?_
  refine rGet (k := 2) C hW (wB_lt hk (by have := hw; omega)) (tm_Order hk hw) rfl inX7 (by decide) fl_X7_18 rfl dX7_takesPitch_10 ?_
  refine lv_icmp_gt (tgt := 20) hx hb dX7_takesPitch_13 (by decide) (fun c1 => ?_) (fun c1 => ?_)
  · rw [if_pos c1] at h
    refine lv_iconst (v := 0) hx hb dX7_takesPitch_20 (by decide) ?_
    cases h
    exact rZ C hr hlk dX7_takesPitch_21 hW hS (nar01 (Or.inl rfl)) ⟨rfl, rfl, (Or.inl rfl)⟩
  · rw [if_neg c1] at h
    refine lv_iconst (v := 1) hx hb dX7_takesPitch_16 (by decide) ?_
    refine lv_goto (tgt := 21) hx hb dX7_takesPitch_17 (by decide) ?_
    cases h
    exact rZ C hr hlk dX7_takesPitch_21 hW hS (nar01 (Or.inr rfl)) ⟨rfl, rfl, (Or.inr rfl)⟩
def f_X7_isFitBy (M : MM) (k : Nat) (w : Nat) (j : Nat) : Option (Int32 × MM) := (if (M k (60 + 8 * j) : Int32) = 0 then (if (M k (56 + 8 * j) : Int32) = (M k (854 + 4 * w) : Int32) then (bnd2 (f_X7_takesPitch M k w (M k (57 + 8 * j))) fun r3 M4 => (if (r3 : Int32) = 0 then some (0, M4) else some (1, M4))) else some (0, M)) else some (0, M))
set_option maxHeartbeats 4000000 in
set_option maxRecDepth 100000 in
theorem c_X7_isFitBy (l : Launch) (g : GD) (M : MM) (k : Nat) (w : Nat) (j : Nat) (hk : k < 5) (hw : w < 100) (hj : j < 100) (r : Int32) (M2 : MM) (h : f_X7_isFitBy M k w j = some (r, M2)) : Met l yX7_isFitBy (wm yX7_isFitBy cX7_isFitBy 2 (some .boolean)) (RM 2 61) (va_Pc [rf g (wB k + (236 + w)), rf g (wB k + (36 + 2 * j))] (WDp g M)) (QQ g (fun v w0 => v = .int r ∧ M2 = w0 ∧ (r = 0 ∨ r = 1))) 0 0 (AA g) := by
  refine mkM (by decide +kernel) (Nat.le_of_ble_eq_true rfl) ?_
  intro p e s m below meth c C hr hlk hW hS ls hl
  have hl : lv_has ls 2 [(0, rf g (wB k + (236 + w))), (1, rf g (wB k + (36 + 2 * j)))] := hl
  have hx := C.1
  have hb := C.2.1
  have hts := C.2.2.2.2.1
  unfold f_X7_isFitBy at h
  refine lv_aload_n hx hb dX7_isFitBy_0 rfl (lv_at hl 1 rfl) ?_
  refine rGetN (k := 5) C hW (wB_lt hk (by have := hj; omega)) (tm_Bell hk hj) rfl inX0 (by decide) fl_X7_30 rfl dX7_isFitBy_1 ?_
  refine lv_if_ne (tgt := 33) hx hb dX7_isFitBy_4 (by decide) (fun c1 => ?_) (fun c1 => ?_)
  · rw [if_neg c1] at h
    refine lv_iconst (v := 0) hx hb dX7_isFitBy_33 (by decide) ?_
    cases h
    exact rZ C hr hlk dX7_isFitBy_34 hW hS (nar01 (Or.inl rfl)) ⟨rfl, rfl, (Or.inl rfl)⟩
  · rw [if_pos c1] at h
    refine lv_aload_n hx hb dX7_isFitBy_7 rfl (lv_at hl 1 rfl) ?_
    refine rGetN (k := 1) C hW (wB_lt hk (by have := hj; omega)) (tm_Bell hk hj) rfl inX0 (by decide) fl_X7_33 rfl dX7_isFitBy_8 ?_
    refine lv_aload_n hx hb dX7_isFitBy_11 rfl (lv_at hl 0 rfl) ?_
    refine rGet (k := 0) C hW (wB_lt hk (by have := hw; omega)) (tm_Order hk hw) rfl inX7 (by decide) fl_X7_9 rfl dX7_isFitBy_12 ?_
    refine lv_icmp_ne (tgt := 33) hx hb dX7_isFitBy_15 (by decide) (fun c2 => ?_) (fun c2 => ?_)
    · rw [if_neg c2] at h
      refine lv_iconst (v := 0) hx hb dX7_isFitBy_33 (by decide) ?_
      cases h
      exact rZ C hr hlk dX7_isFitBy_34 hW hS (nar01 (Or.inl rfl)) ⟨rfl, rfl, (Or.inl rfl)⟩
    · rw [if_pos c2] at h
      refine lv_aload_n hx hb dX7_isFitBy_18 rfl (lv_at hl 0 rfl) ?_
      refine lv_aload_n hx hb dX7_isFitBy_19 rfl (lv_at hl 1 rfl) ?_
      refine rGetN (k := 2) C hW (wB_lt hk (by have := hj; omega)) (tm_Bell hk hj) rfl inX0 (by decide) fl_X7_34 rfl dX7_isFitBy_20 ?_
      obtain ⟨r3, M4, h5, h⟩ := bind2 h
      refine cBack C.2.2.2.2.2.2.2.2 (runV (As := [.int (M k (57 + 8 * j))]) (rest := []) C hW hS (c_X7_takesPitch l g M k w (M k (57 + 8 * j)) hk hw _ _ h5) kV_X7_takesPitch ml_X7_35 (wB_lt hk (by have := hw; omega)) (tm_Order hk hw) rfl rfl rfl hl.1 rfl (Nat.le_of_ble_eq_true rfl) ⟨Nat.le_of_ble_eq_true rfl, Nat.le_of_ble_eq_true rfl⟩ ⟨Nat.zero_le _, Nat.zero_le _⟩ dX7_isFitBy_23) hS (fun v0 w0 H locs hp hW hS => ?_)
      obtain ⟨rfl, rfl, zr3⟩ := hp
      refine lv_if_eq (tgt := 33) hx hb dX7_isFitBy_26 (by decide) (fun c6 => ?_) (fun c6 => ?_)
      · rw [if_pos c6] at h
        refine lv_iconst (v := 0) hx hb dX7_isFitBy_33 (by decide) ?_
        cases h
        exact rZ C hr hlk dX7_isFitBy_34 hW hS (nar01 (Or.inl rfl)) ⟨rfl, rfl, (Or.inl rfl)⟩
      · rw [if_neg c6] at h
        refine lv_iconst (v := 1) hx hb dX7_isFitBy_29 (by decide) ?_
        refine lv_goto (tgt := 34) hx hb dX7_isFitBy_30 (by decide) ?_
        cases h
        exact rZ C hr hlk dX7_isFitBy_34 hW hS (nar01 (Or.inr rfl)) ⟨rfl, rfl, (Or.inr rfl)⟩
def f_X7_copyFrom (M : MM) (k : Nat) (w : Nat) (k2 : Nat) (w2 : Nat) : Option (Unit × MM) := (letB (up2 M k (854 + 4 * w) (M k2 (854 + 4 * w2))) fun M1 => (letB (up2 M1 k (855 + 4 * w) (M1 k2 (855 + 4 * w2))) fun M2 => (letB (up2 M2 k (856 + 4 * w) (M2 k2 (856 + 4 * w2))) fun M3 => (letB (up2 M3 k (857 + 4 * w) (M3 k2 (857 + 4 * w2))) fun M4 => some ((), M4)))))
set_option maxHeartbeats 4000000 in
set_option maxRecDepth 100000 in
theorem c_X7_copyFrom (l : Launch) (g : GD) (M : MM) (k : Nat) (w : Nat) (k2 : Nat) (w2 : Nat) (hk : k < 5) (hw : w < 100) (hk2 : k2 < 5) (hw2 : w2 < 100) (r : Unit) (M2 : MM) (h : f_X7_copyFrom M k w k2 w2 = some (r, M2)) : Met l yX7_copyFrom (wm yX7_copyFrom cX7_copyFrom 2 none) (RM 0 0) (va_Pc [rf g (wB k + (236 + w)), rf g (wB k2 + (236 + w2))] (WDp g M)) (QV g (fun w0 => M2 = w0)) 0 0 (AA g) := by
  refine mkM (by decide +kernel) (Nat.le_of_ble_eq_true rfl) ?_
  intro p e s m below meth c C hr hlk hW hS ls hl
  have hl : lv_has ls 2 [(0, rf g (wB k + (236 + w))), (1, rf g (wB k2 + (236 + w2)))] := hl
  have hx := C.1
  have hb := C.2.1
  have hts := C.2.2.2.2.1
  unfold f_X7_copyFrom at h
  refine lv_aload_n hx hb dX7_copyFrom_0 rfl (lv_at hl 0 rfl) ?_
  refine lv_aload_n hx hb dX7_copyFrom_1 rfl (lv_at hl 1 rfl) ?_
  refine rGet (k := 0) C hW (wB_lt hk2 (by have := hw2; omega)) (tm_Order hk2 hw2) rfl inX7 (by decide) fl_X7_9 rfl dX7_copyFrom_2 ?_
  refine rPut (k := 0) C hW hS (wB_lt hk (by have := hw; omega)) (tm_Order hk hw) rfl inX7 tyX7_ok nmX7 (by decide) fl_X7_9 rfl (by decide +kernel) (Nat.le_of_ble_eq_true rfl) (upd_Order_profile hk hw _) dX7_copyFrom_5 (fun H locs hW hS => ?_)
  have hW : Wd g (up2 M k (854 + 4 * w) (M k2 (854 + 4 * w2))) H := hW
  have h := letE h
  generalize up2 M k (854 + 4 * w) (M k2 (854 + 4 * w2)) = M1 at hW h
  refine lv_aload_n hx hb dX7_copyFrom_8 rfl (lv_at hl 0 rfl) ?_
  refine lv_aload_n hx hb dX7_copyFrom_9 rfl (lv_at hl 1 rfl) ?_
  refine rGet (k := 1) C hW (wB_lt hk2 (by have := hw2; omega)) (tm_Order hk2 hw2) rfl inX7 (by decide) fl_X7_15 rfl dX7_copyFrom_10 ?_
  refine rPut (k := 1) C hW hS (wB_lt hk (by have := hw; omega)) (tm_Order hk hw) rfl inX7 tyX7_ok nmX7 (by decide) fl_X7_15 rfl (by decide +kernel) (Nat.le_of_ble_eq_true rfl) (upd_Order_pitch hk hw _) dX7_copyFrom_13 (fun H locs hW hS => ?_)
  have hW : Wd g (up2 M1 k (855 + 4 * w) (M1 k2 (855 + 4 * w2))) H := hW
  have h := letE h
  generalize up2 M1 k (855 + 4 * w) (M1 k2 (855 + 4 * w2)) = M2 at hW h
  refine lv_aload_n hx hb dX7_copyFrom_16 rfl (lv_at hl 0 rfl) ?_
  refine lv_aload_n hx hb dX7_copyFrom_17 rfl (lv_at hl 1 rfl) ?_
  refine rGet (k := 2) C hW (wB_lt hk2 (by have := hw2; omega)) (tm_Order hk2 hw2) rfl inX7 (by decide) fl_X7_18 rfl dX7_copyFrom_18 ?_
  refine rPut (k := 2) C hW hS (wB_lt hk (by have := hw; omega)) (tm_Order hk hw) rfl inX7 tyX7_ok nmX7 (by decide) fl_X7_18 rfl (by decide +kernel) (Nat.le_of_ble_eq_true rfl) (upd_Order_tolerance hk hw _) dX7_copyFrom_21 (fun H locs hW hS => ?_)
  have hW : Wd g (up2 M2 k (856 + 4 * w) (M2 k2 (856 + 4 * w2))) H := hW
  have h := letE h
  generalize up2 M2 k (856 + 4 * w) (M2 k2 (856 + 4 * w2)) = M3 at hW h
  refine lv_aload_n hx hb dX7_copyFrom_24 rfl (lv_at hl 0 rfl) ?_
  refine lv_aload_n hx hb dX7_copyFrom_25 rfl (lv_at hl 1 rfl) ?_
  refine rGet (k := 3) C hW (wB_lt hk2 (by have := hw2; omega)) (tm_Order hk2 hw2) rfl inX7 (by decide) fl_X7_21 rfl dX7_copyFrom_26 ?_
  refine rPut (k := 3) C hW hS (wB_lt hk (by have := hw; omega)) (tm_Order hk hw) rfl inX7 tyX7_ok nmX7 (by decide) fl_X7_21 rfl (by decide +kernel) (Nat.le_of_ble_eq_true rfl) (upd_Order_state hk hw _) dX7_copyFrom_29 (fun H locs hW hS => ?_)
  have hW : Wd g (up2 M3 k (857 + 4 * w) (M3 k2 (857 + 4 * w2))) H := hW
  have h := letE h
  generalize up2 M3 k (857 + 4 * w) (M3 k2 (857 + 4 * w2)) = M4 at hW h
  cases h
  exact rV C hr hlk dX7_copyFrom_32 hW hS rfl
def f_X4_hangBell (M : MM) (q : Nat) (x : Int32) : Option (Unit × MM) := (letB (up2 M (70 + q) 0 (x)) fun M1 => (letB (up2 M1 (70 + q) 1 (x)) fun M2 => (letB (up2 M2 (70 + q) 2 (1)) fun M3 => some ((), M3))))
set_option maxHeartbeats 4000000 in
set_option maxRecDepth 100000 in
theorem c_X4_hangBell (l : Launch) (g : GD) (M : MM) (o : Nat) (q : Nat) (x : Int32) (hq : LD o q) (r : Unit) (M2 : MM) (h : f_X4_hangBell M q x = some (r, M2)) : Met l yX4_hangBell (wm yX4_hangBell cX4_hangBell 2 none) (RM 0 0) (va_Pc [rf g (o), .int (x)] (WDp g M)) (QV g (fun w0 => M2 = w0)) 0 0 (AA g) := by
  refine mkM (by decide +kernel) (Nat.le_of_ble_eq_true rfl) ?_
  intro p e s m below meth c C hr hlk hW hS ls hl
  have hl : lv_has ls 2 [(0, rf g (o)), (1, .int (x))] := hl
  have hx := C.1
  have hb := C.2.1
  have hts := C.2.2.2.2.1
  unfold f_X4_hangBell at h
  refine lv_aload_n hx hb dX4_hangBell_0 rfl (lv_at hl 0 rfl) ?_
  refine lv_iload_n hx hb dX4_hangBell_1 rfl (lv_at hl 1 rfl) ?_
  refine rPut (k := 0) C hW hS hq.lt hq.cel rfl inX4 tyX4_ok nmX4 (by decide) fl_X4_7 rfl (by decide +kernel) (Nat.le_of_ble_eq_true rfl) (hq.up0 _) dX4_hangBell_2 (fun H locs hW hS => ?_)
  have hW : Wd g (up2 M (70 + q) 0 (x)) H := hW
  have h := letE h
  generalize up2 M (70 + q) 0 (x) = M1 at hW h
  refine lv_aload_n hx hb dX4_hangBell_5 rfl (lv_at hl 0 rfl) ?_
  refine lv_iload_n hx hb dX4_hangBell_6 rfl (lv_at hl 1 rfl) ?_
  refine rPut (k := 1) C hW hS hq.lt hq.cel rfl inX4 tyX4_ok nmX4 (by decide) fl_X4_13 rfl (by decide +kernel) (Nat.le_of_ble_eq_true rfl) (hq.up1 _) dX4_hangBell_7 (fun H locs hW hS => ?_)
  have hW : Wd g (up2 M1 (70 + q) 1 (x)) H := hW
  have h := letE h
  generalize up2 M1 (70 + q) 1 (x) = M2 at hW h
  refine lv_aload_n hx hb dX4_hangBell_10 rfl (lv_at hl 0 rfl) ?_
  refine lv_iconst (v := 1) hx hb dX4_hangBell_11 (by decide) ?_
  refine rPut (k := 2) C hW hS hq.lt hq.cel rfl inX4 tyX4_ok nmX4 (by decide) fl_X4_16 rfl (by decide +kernel) (Nat.le_of_ble_eq_true rfl) (hq.up2 _) dX4_hangBell_12 (fun H locs hW hS => ?_)
  have hW : Wd g (up2 M2 (70 + q) 2 (1)) H := hW
  have h := letE h
  generalize up2 M2 (70 + q) 2 (1) = M3 at hW h
  cases h
  exact rV C hr hlk dX4_hangBell_15 hW hS rfl
def f_X4_roundUpTo (M : MM) (x : Int32) (y : Int32) : Option (Int32 × MM) := some ((((y) + (x)) - (1)) &&& (-(x)), M)
set_option maxHeartbeats 4000000 in
set_option maxRecDepth 100000 in
theorem c_X4_roundUpTo (l : Launch) (g : GD) (M : MM) (x : Int32) (y : Int32) (r : Int32) (M2 : MM) (h : f_X4_roundUpTo M x y = some (r, M2)) : Met l yX4_roundUpTo (wm yX4_roundUpTo cX4_roundUpTo 2 (some .int)) (RM 0 0) (va_Pc [.int (x), .int (y)] (WDp g M)) (QQ g (fun v w0 => v = .int r ∧ M2 = w0)) 0 0 (AA g) := by
  refine mkM (by decide +kernel) (Nat.le_of_ble_eq_true rfl) ?_
  intro p e s m below meth c C hr hlk hW hS ls hl
  have hl : lv_has ls 2 [(0, .int (x)), (1, .int (y))] := hl
  have hx := C.1
  have hb := C.2.1
  have hts := C.2.2.2.2.1
  unfold f_X4_roundUpTo at h
  refine lv_iload_n hx hb dX4_roundUpTo_0 rfl (lv_at hl 1 rfl) ?_
  refine lv_iload_n hx hb dX4_roundUpTo_1 rfl (lv_at hl 0 rfl) ?_
  refine lv_iadd hx hb dX4_roundUpTo_2 ?_
  refine lv_iconst (v := 1) hx hb dX4_roundUpTo_3 (by decide) ?_
  refine lv_isub hx hb dX4_roundUpTo_4 ?_
  refine lv_iload_n hx hb dX4_roundUpTo_5 rfl (lv_at hl 0 rfl) ?_
  refine lv_ineg hx hb dX4_roundUpTo_6 ?_
  refine lv_iand hx hb dX4_roundUpTo_7 ?_
  cases h
  exact rI C hr hlk dX4_roundUpTo_8 hW hS ⟨rfl, rfl⟩
def f_X4_hangBeam (M : MM) (q : Nat) (q2 : Nat) : Option (Unit × MM) := (letB (up2 M (70 + q) 0 ((M (70 + q) 0) + (M (70 + q2) 0))) fun M1 => (bnd2 (f_X4_roundUpTo M1 (jmax (M (70 + q2) 2) (M (70 + q) 2)) (jmax (M (70 + q2) 1) (M (70 + q) 1))) fun r2 M3 => (letB (up2 M3 (70 + q) 1 ((2) * (r2))) fun M5 => (letB (up2 M5 (70 + q) 2 ((2) * (jmax (M (70 + q2) 2) (M (70 + q) 2)))) fun M6 => some ((), M6)))))
set_option maxHeartbeats 4000000 in
set_option maxRecDepth 100000 in
theorem c_X4_hangBeam (l : Launch) (g : GD) (M : MM) (o : Nat) (q : Nat) (o2 : Nat) (q2 : Nat) (hq : LD o q) (hq2 : LD o2 q2) (r : Unit) (M2 : MM) (h : f_X4_hangBeam M q q2 = some (r, M2)) : Met l yX4_hangBeam (wm yX4_hangBeam cX4_hangBeam 4 none) (RM 1 40) (va_Pc [rf g (o), rf g (o2)] (WDp g M)) (QV g (fun w0 => M2 = w0)) 0 0 (AA g) := by
  refine mkM (by decide +kernel) (Nat.le_of_ble_eq_true rfl) ?_
  intro p e s m below meth c C hr hlk hW hS ls hl
  have hl : lv_has ls 4 [(0, rf g (o)), (1, rf g (o2))] := hl
  have hx := C.1
  have hb := C.2.1
  have hts := C.2.2.2.2.1
  unfold f_X4_hangBeam at h
  refine lv_aload_n hx hb dX4_hangBeam_0 rfl (lv_at hl 1 rfl) ?_
  refine rGet (k := 2) C hW hq2.lt hq2.cel rfl inX4 (by decide) fl_X4_16 rfl dX4_hangBeam_1 ?_
  refine lv_aload_n hx hb dX4_hangBeam_4 rfl (lv_at hl 0 rfl) ?_
  refine rGet (k := 2) C hW hq.lt hq.cel rfl inX4 (by decide) fl_X4_16 rfl dX4_hangBeam_5 ?_
  refine va_mmax hx hb (C.2.2.1.trans hl.1.symm) C.2.2.2.1 (hts _ ml_X4_19) (hts _ st_max) (hts _ in_J9) (hts _ co_max) (Nat.le_of_ble_eq_true rfl) (Nat.le_of_ble_eq_true rfl) (Nat.zero_le _) (Nat.zero_le _) dX4_hangBeam_8 ?_
  refine lv_istore_n (lv' := [(2, .int (jmax (M (70 + q2) 2) (M (70 + q) 2))), (0, rf g (o)), (1, rf g (o2))]) hx hb dX4_hangBeam_11 rfl hl (by decide) rfl (fun ls hl => ?_)
  refine lv_aload_n hx hb dX4_hangBeam_12 rfl (lv_at hl 2 rfl) ?_
  refine rGet (k := 1) C hW hq2.lt hq2.cel rfl inX4 (by decide) fl_X4_13 rfl dX4_hangBeam_13 ?_
  refine lv_aload_n hx hb dX4_hangBeam_16 rfl (lv_at hl 1 rfl) ?_
  refine rGet (k := 1) C hW hq.lt hq.cel rfl inX4 (by decide) fl_X4_13 rfl dX4_hangBeam_17 ?_
  refine va_mmax hx hb (C.2.2.1.trans hl.1.symm) C.2.2.2.1 (hts _ ml_X4_19) (hts _ st_max) (hts _ in_J9) (hts _ co_max) (Nat.le_of_ble_eq_true rfl) (Nat.le_of_ble_eq_true rfl) (Nat.zero_le _) (Nat.zero_le _) dX4_hangBeam_20 ?_
  refine lv_istore_n (lv' := [(3, .int (jmax (M (70 + q2) 1) (M (70 + q) 1))), (2, .int (jmax (M (70 + q2) 2) (M (70 + q) 2))), (0, rf g (o)), (1, rf g (o2))]) hx hb dX4_hangBeam_23 rfl hl (by decide) rfl (fun ls hl => ?_)
  refine lv_aload_n hx hb dX4_hangBeam_24 rfl (lv_at hl 2 rfl) ?_
  refine lv_dup hx hb dX4_hangBeam_25 rfl ?_
  refine rGet (k := 0) C hW hq.lt hq.cel rfl inX4 (by decide) fl_X4_7 rfl dX4_hangBeam_26 ?_
  refine lv_aload_n hx hb dX4_hangBeam_29 rfl (lv_at hl 3 rfl) ?_
  refine rGet (k := 0) C hW hq2.lt hq2.cel rfl inX4 (by decide) fl_X4_7 rfl dX4_hangBeam_30 ?_
  refine lv_iadd hx hb dX4_hangBeam_33 ?_
  refine rPut (k := 0) C hW hS hq.lt hq.cel rfl inX4 tyX4_ok nmX4 (by decide) fl_X4_7 rfl (by decide +kernel) (Nat.le_of_ble_eq_true rfl) (hq.up0 _) dX4_hangBeam_34 (fun H locs hW hS => ?_)
  have hW : Wd g (up2 M (70 + q) 0 ((M (70 + q) 0) + (M (70 + q2) 0))) H := hW
  have h := letE h
  generalize up2 M (70 + q) 0 ((M (70 + q) 0) + (M (70 + q2) 0)) = M1 at hW h
  refine lv_aload_n hx hb dX4_hangBeam_37 rfl (lv_at hl 2 rfl) ?_
  refine lv_iconst (v := 2) hx hb dX4_hangBeam_38 (by decide) ?_
  refine lv_iload_n hx hb dX4_hangBeam_39 rfl (lv_at hl 1 rfl) ?_
  refine lv_iload_n hx hb dX4_hangBeam_40 rfl (lv_at hl 0 rfl) ?_
  obtain ⟨r2, M3, h4, h⟩ := bind2 h
  refine cBack C.2.2.2.2.2.2.2.2 (runS (As := [.int (jmax (M (70 + q2) 2) (M (70 + q) 2)), .int (jmax (M (70 + q2) 1) (M (70 + q) 1))]) (rest := [.int (2), rf g (o)]) C hW hS (c_X4_roundUpTo l g M1 (jmax (M (70 + q2) 2) (M (70 + q) 2)) (jmax (M (70 + q2) 1) (M (70 + q) 1)) _ _ h4) kS_X4_roundUpTo ml_X4_25 rfl hl.1 rfl (Nat.le_of_ble_eq_true rfl) ⟨Nat.le_of_ble_eq_true rfl, Nat.le_of_ble_eq_true rfl⟩ ⟨Nat.zero_le _, Nat.zero_le _⟩ dX4_hangBeam_41) hS (fun v0 w0 H locs hp hW hS => ?_)
  obtain ⟨rfl, rfl⟩ := hp
  refine lv_imul hx hb dX4_hangBeam_44 ?_
  refine rPut (k := 1) C hW hS hq.lt hq.cel rfl inX4 tyX4_ok nmX4 (by decide) fl_X4_13 rfl (by decide +kernel) (Nat.le_of_ble_eq_true rfl) (hq.up1 _) dX4_hangBeam_45 (fun H locs hW hS => ?_)
  have hW : Wd g (up2 M3 (70 + q) 1 ((2) * (r2))) H := hW
  have h := letE h
  generalize up2 M3 (70 + q) 1 ((2) * (r2)) = M5 at hW h
  refine lv_aload_n hx hb dX4_hangBeam_48 rfl (lv_at hl 2 rfl) ?_
  refine lv_iconst (v := 2) hx hb dX4_hangBeam_49 (by decide) ?_
  refine lv_iload_n hx hb dX4_hangBeam_50 rfl (lv_at hl 1 rfl) ?_
  refine lv_imul hx hb dX4_hangBeam_51 ?_
  refine rPut (k := 2) C hW hS hq.lt hq.cel rfl inX4 tyX4_ok nmX4 (by decide) fl_X4_16 rfl (by decide +kernel) (Nat.le_of_ble_eq_true rfl) (hq.up2 _) dX4_hangBeam_52 (fun H locs hW hS => ?_)
  have hW : Wd g (up2 M5 (70 + q) 2 ((2) * (jmax (M (70 + q2) 2) (M (70 + q) 2)))) H := hW
  have h := letE h
  generalize up2 M5 (70 + q) 2 ((2) * (jmax (M (70 + q2) 2) (M (70 + q) 2))) = M6 at hW h
  cases h
  exact rV C hr hlk dX4_hangBeam_55 hW hS rfl
def f_X4_copyFrom (M : MM) (q : Nat) (q2 : Nat) : Option (Unit × MM) := (letB (up2 M (70 + q) 0 (M (70 + q2) 0)) fun M1 => (letB (up2 M1 (70 + q) 1 (M1 (70 + q2) 1)) fun M2 => (letB (up2 M2 (70 + q) 2 (M2 (70 + q2) 2)) fun M3 => some ((), M3))))
set_option maxHeartbeats 4000000 in
set_option maxRecDepth 100000 in
theorem c_X4_copyFrom (l : Launch) (g : GD) (M : MM) (o : Nat) (q : Nat) (o2 : Nat) (q2 : Nat) (hq : LD o q) (hq2 : LD o2 q2) (r : Unit) (M2 : MM) (h : f_X4_copyFrom M q q2 = some (r, M2)) : Met l yX4_copyFrom (wm yX4_copyFrom cX4_copyFrom 2 none) (RM 0 0) (va_Pc [rf g (o), rf g (o2)] (WDp g M)) (QV g (fun w0 => M2 = w0)) 0 0 (AA g) := by
  refine mkM (by decide +kernel) (Nat.le_of_ble_eq_true rfl) ?_
  intro p e s m below meth c C hr hlk hW hS ls hl
  have hl : lv_has ls 2 [(0, rf g (o)), (1, rf g (o2))] := hl
  have hx := C.1
  have hb := C.2.1
  have hts := C.2.2.2.2.1
  unfold f_X4_copyFrom at h
  refine lv_aload_n hx hb dX4_copyFrom_0 rfl (lv_at hl 0 rfl) ?_
  refine lv_aload_n hx hb dX4_copyFrom_1 rfl (lv_at hl 1 rfl) ?_
  refine rGet (k := 0) C hW hq2.lt hq2.cel rfl inX4 (by decide) fl_X4_7 rfl dX4_copyFrom_2 ?_
  refine rPut (k := 0) C hW hS hq.lt hq.cel rfl inX4 tyX4_ok nmX4 (by decide) fl_X4_7 rfl (by decide +kernel) (Nat.le_of_ble_eq_true rfl) (hq.up0 _) dX4_copyFrom_5 (fun H locs hW hS => ?_)
  have hW : Wd g (up2 M (70 + q) 0 (M (70 + q2) 0)) H := hW
  have h := letE h
  generalize up2 M (70 + q) 0 (M (70 + q2) 0) = M1 at hW h
  refine lv_aload_n hx hb dX4_copyFrom_8 rfl (lv_at hl 0 rfl) ?_
  refine lv_aload_n hx hb dX4_copyFrom_9 rfl (lv_at hl 1 rfl) ?_
  refine rGet (k := 1) C hW hq2.lt hq2.cel rfl inX4 (by decide) fl_X4_13 rfl dX4_copyFrom_10 ?_
  refine rPut (k := 1) C hW hS hq.lt hq.cel rfl inX4 tyX4_ok nmX4 (by decide) fl_X4_13 rfl (by decide +kernel) (Nat.le_of_ble_eq_true rfl) (hq.up1 _) dX4_copyFrom_13 (fun H locs hW hS => ?_)
  have hW : Wd g (up2 M1 (70 + q) 1 (M1 (70 + q2) 1)) H := hW
  have h := letE h
  generalize up2 M1 (70 + q) 1 (M1 (70 + q2) 1) = M2 at hW h
  refine lv_aload_n hx hb dX4_copyFrom_16 rfl (lv_at hl 0 rfl) ?_
  refine lv_aload_n hx hb dX4_copyFrom_17 rfl (lv_at hl 1 rfl) ?_
  refine rGet (k := 2) C hW hq2.lt hq2.cel rfl inX4 (by decide) fl_X4_16 rfl dX4_copyFrom_18 ?_
  refine rPut (k := 2) C hW hS hq.lt hq.cel rfl inX4 tyX4_ok nmX4 (by decide) fl_X4_16 rfl (by decide +kernel) (Nat.le_of_ble_eq_true rfl) (hq.up2 _) dX4_copyFrom_21 (fun H locs hW hS => ?_)
  have hW : Wd g (up2 M2 (70 + q) 2 (M2 (70 + q2) 2)) H := hW
  have h := letE h
  generalize up2 M2 (70 + q) 2 (M2 (70 + q2) 2) = M3 at hW h
  cases h
  exact rV C hr hlk dX4_copyFrom_24 hW hS rfl
