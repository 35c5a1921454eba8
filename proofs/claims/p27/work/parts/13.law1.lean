def f_L_low (M : MM) (x : Int32) (y : Int32) : Option (Int32 × MM) := (if (y : Int32) = 0 then none else some (((x) &&& (2147483647)) - ((x) &&& (2147483647)) / (y) * (y), M))
set_option maxHeartbeats 4000000 in
set_option maxRecDepth 100000 in
theorem c_L_low (l : Launch) (g : GD) (M : MM) (x : Int32) (y : Int32) (r : Int32) (M2 : MM) (h : f_L_low M x y = some (r, M2)) : Met l yL_low (wm yL_low cL_low 2 (some .int)) (RM 0 0) (va_Pc [.int (x), .int (y)] (WDp g M)) (QU g (fun v w0 => v = .int r ∧ M2 = w0)) 0 0 (AU g) := by
  refine mkU (by decide +kernel) (Nat.le_of_ble_eq_true rfl) ?_
  intro p e s m below meth c C hr hlk hW hS ls hl
  have hl : lv_has ls 2 [(0, .int (x)), (1, .int (y))] := hl
  have hx := C.1
  have hb := C.2.1
  have hts := C.2.2.2.2.1
  unfold f_L_low at h
  refine lv_iload_n hx hb dL_low_0 rfl (lv_at hl 0 rfl) ?_
  refine lv_ldc hx hb C.2.2.2.1 (C.2.2.2.2.1 _ kc_L_8) dL_low_1 ?_
  refine lv_iand hx hb dL_low_3 ?_
  refine lv_iload_n hx hb dL_low_4 rfl (lv_at hl 1 rfl) ?_
  have s1 : ¬ ((y : Int32) = 0) := fun q9 => by rw [if_pos q9] at h; cases h
  rw [if_neg s1] at h
  refine lv_irem hx hb dL_low_5 s1 ?_
  cases h
  exact rIU C hr hlk dL_low_6 hW hS ⟨rfl, rfl⟩
def f_L_number (M : MM) (x : Int32) : Option (Int32 × MM) := (if (x : Int32) < (10 : Int32) then (bnd2 (f_X10_type M ((48) + ((x) - (x) / (10) * (10)))) fun r3 Mw4 => (if (r3 : Int32) ≤ 0 then none else some (1, Mw4))) else (bnd2 (f_X10_type M ((48) + ((x) / (10)))) fun r8 Mw9 => (if (r8 : Int32) ≤ 0 then none else (bnd2 (f_X10_type Mw9 ((48) + ((x) - (x) / (10) * (10)))) fun r13 Mw14 => (if (r13 : Int32) ≤ 0 then none else some (1, Mw14))))))
set_option maxHeartbeats 4000000 in
set_option maxRecDepth 100000 in
theorem c_L_number (l : Launch) (g : GD) (M : MM) (x : Int32) (r : Int32) (M2 : MM) (h : f_L_number M x = some (r, M2)) : Met l yL_number (wm yL_number cL_number 2 (some .boolean)) (RM 2 43) (va_Pc [rf g (0), .int (x)] (WDp g M)) (QU g (fun v w0 => v = .int r ∧ M2 = w0)) 0 0 (AU g) := by
  refine mkU (by decide +kernel) (Nat.le_of_ble_eq_true rfl) ?_
  intro p e s m below meth c C hr hlk hW hS ls hl
  have hl : lv_has ls 2 [(0, rf g (0)), (1, .int (x))] := hl
  have hx := C.1
  have hb := C.2.1
  have hts := C.2.2.2.2.1
  unfold f_L_number at h
  refine lv_iload_n hx hb dL_number_0 rfl (lv_at hl 1 rfl) ?_
  refine lv_bipush (v := 10) hx hb dL_number_1 (by decide) ?_
  refine lv_icmp_lt (tgt := 20) hx hb dL_number_3 (by decide) (fun c1 => ?_) (fun c1 => ?_)
  · rw [if_pos c1] at h
    refine lv_aload_n hx hb dL_number_20 rfl (lv_at hl 0 rfl) ?_
    refine lv_bipush (v := 48) hx hb dL_number_21 (by decide) ?_
    refine lv_iload_n hx hb dL_number_23 rfl (lv_at hl 1 rfl) ?_
    refine lv_bipush (v := 10) hx hb dL_number_24 (by decide) ?_
    refine lv_irem hx hb dL_number_26 (by decide) ?_
    refine lv_iadd hx hb dL_number_27 ?_
    obtain ⟨r3, Mw4, h5, h⟩ := bind2 h
    refine cBackC C.2.2.2.2.2.2.2.2 (runVU (As := [.int ((48) + ((x) - (x) / (10) * (10)))]) (rest := []) C hW hS (c_X10_type l g M ((48) + ((x) - (x) / (10) * (10))) _ _ h5) kV_X10_type ml_L_106 (by decide) tm_BF rfl rfl rfl hl.1 rfl (Nat.le_of_ble_eq_true rfl) ⟨Nat.le_of_ble_eq_true rfl, Nat.le_of_ble_eq_true rfl⟩ ⟨Nat.zero_le _, Nat.zero_le _⟩ dL_number_28) hS (fun v0 w0 H locs hp hW hS hq => ?_)
    obtain ⟨rfl, rfl⟩ := hp
    refine lv_if_le (tgt := 38) hx hb dL_number_31 (by decide) (fun c6 => ?_) (fun c6 => ?_)
    · rw [if_pos c6] at h
      refine lv_iconst (v := 0) hx hb dL_number_38 (by decide) ?_
      cases h
    · rw [if_neg c6] at h
      refine lv_iconst (v := 1) hx hb dL_number_34 (by decide) ?_
      refine lv_goto (tgt := 39) hx hb dL_number_35 (by decide) ?_
      cases h
      exact rZU C hr hlk dL_number_39 hW hS rfl ⟨rfl, rfl⟩
  · rw [if_neg c1] at h
    refine lv_aload_n hx hb dL_number_6 rfl (lv_at hl 0 rfl) ?_
    refine lv_bipush (v := 48) hx hb dL_number_7 (by decide) ?_
    refine lv_iload_n hx hb dL_number_9 rfl (lv_at hl 1 rfl) ?_
    refine lv_bipush (v := 10) hx hb dL_number_10 (by decide) ?_
    refine lv_idiv hx hb dL_number_12 (by decide) ?_
    refine lv_iadd hx hb dL_number_13 ?_
    obtain ⟨r8, Mw9, h10, h⟩ := bind2 h
    refine cBackC C.2.2.2.2.2.2.2.2 (runVU (As := [.int ((48) + ((x) / (10)))]) (rest := []) C hW hS (c_X10_type l g M ((48) + ((x) / (10))) _ _ h10) kV_X10_type ml_L_106 (by decide) tm_BF rfl rfl rfl hl.1 rfl (Nat.le_of_ble_eq_true rfl) ⟨Nat.le_of_ble_eq_true rfl, Nat.le_of_ble_eq_true rfl⟩ ⟨Nat.zero_le _, Nat.zero_le _⟩ dL_number_14) hS (fun v0 w0 H locs hp hW hS hq => ?_)
    obtain ⟨rfl, rfl⟩ := hp
    refine lv_if_le (tgt := 38) hx hb dL_number_17 (by decide) (fun c11 => ?_) (fun c11 => ?_)
    · rw [if_pos c11] at h
      refine lv_iconst (v := 0) hx hb dL_number_38 (by decide) ?_
      cases h
    · rw [if_neg c11] at h
      refine lv_aload_n hx hb dL_number_20 rfl (lv_at hl 0 rfl) ?_
      refine lv_bipush (v := 48) hx hb dL_number_21 (by decide) ?_
      refine lv_iload_n hx hb dL_number_23 rfl (lv_at hl 1 rfl) ?_
      refine lv_bipush (v := 10) hx hb dL_number_24 (by decide) ?_
      refine lv_irem hx hb dL_number_26 (by decide) ?_
      refine lv_iadd hx hb dL_number_27 ?_
      obtain ⟨r13, Mw14, h15, h⟩ := bind2 h
      refine cBackC C.2.2.2.2.2.2.2.2 (runVU (As := [.int ((48) + ((x) - (x) / (10) * (10)))]) (rest := []) C hW hS (c_X10_type l g Mw9 ((48) + ((x) - (x) / (10) * (10))) _ _ h15) kV_X10_type ml_L_106 (by decide) tm_BF rfl rfl rfl hl.1 rfl (Nat.le_of_ble_eq_true rfl) ⟨Nat.le_of_ble_eq_true rfl, Nat.le_of_ble_eq_true rfl⟩ ⟨Nat.zero_le _, Nat.zero_le _⟩ dL_number_28) hS (fun v0 w0 H locs hp hW hS hq => ?_)
      obtain ⟨rfl, rfl⟩ := hp
      refine lv_if_le (tgt := 38) hx hb dL_number_31 (by decide) (fun c16 => ?_) (fun c16 => ?_)
      · rw [if_pos c16] at h
        refine lv_iconst (v := 0) hx hb dL_number_38 (by decide) ?_
        cases h
      · rw [if_neg c16] at h
        refine lv_iconst (v := 1) hx hb dL_number_34 (by decide) ?_
        refine lv_goto (tgt := 39) hx hb dL_number_35 (by decide) ?_
        cases h
        exact rZU C hr hlk dL_number_39 hW hS rfl ⟨rfl, rfl⟩
def lp_L_sum_182 (fu : Nat) (M : MM) (u : Int64) (z : Int32) : Option (Int64 × MM) := match fu with
  | 0 => none
  | n + 1 => (bnd2 (f_X10_count M 5) fun r6001 Mw6002 => (if ((6) * (r6001) : Int32) ≤ (z : Int32) then some (u, Mw6002) else (bnd2 (f_X10_orderOf Mw6002 ((z) / (6)) ((z) - (z) / (6) * (6))) fun r6007 Mw6008 => (lp_L_sum_182 n Mw6008 (((31) * (u)) + (Int32.toInt64 (r6007))) (z + 1)))))
def lp_L_sum_142 (fu : Nat) (M : MM) (u : Int64) (z : Int32) : Option (Int64 × MM) := match fu with
  | 0 => none
  | n + 1 => (bnd2 (f_X10_count M 1) fun r5001 Mw5002 => (if ((10) * (r5001) : Int32) ≤ (z : Int32) then (lp_L_sum_182 FU Mw5002 u 0) else (bnd2 (f_X10_bell Mw5002 ((z) / (10)) ((z) - (z) / (10) * (10))) fun r5007 Mw5008 => (lp_L_sum_142 n Mw5008 (((31) * (u)) + (Int32.toInt64 (r5007))) (z + 1)))))
def lp_L_sum_105 (fu : Nat) (M : MM) (u : Int64) (z : Int32) : Option (Int64 × MM) := match fu with
  | 0 => none
  | n + 1 => (bnd2 (f_X10_count M 0) fun r4001 Mw4002 => (if ((5) * (r4001) : Int32) ≤ (z : Int32) then (lp_L_sum_142 FU Mw4002 u 0) else (bnd2 (f_X10_lot Mw4002 ((z) / (5)) ((z) - (z) / (5) * (5))) fun r4007 Mw4008 => (lp_L_sum_105 n Mw4008 (((31) * (u)) + (Int32.toInt64 (r4007))) (z + 1)))))
def lp_L_sum_71 (fu : Nat) (M : MM) (u : Int64) (z : Int32) : Option (Int64 × MM) := match fu with
  | 0 => none
  | n + 1 => (if (14 : Int32) ≤ (z : Int32) then (lp_L_sum_105 FU M u 0) else (bnd2 (f_X10_account M ((z) / (7)) ((z) - (z) / (7) * (7))) fun r3004 Mw3005 => (lp_L_sum_71 n Mw3005 (((31) * (u)) + (Int32.toInt64 (r3004))) (z + 1))))
def lp_L_sum_44 (fu : Nat) (M : MM) (u : Int64) (z : Int32) : Option (Int64 × MM) := match fu with
  | 0 => none
  | n + 1 => (if (27 : Int32) ≤ (z : Int32) then (lp_L_sum_71 FU M u 0) else (bnd2 (f_X10_count M z) fun r2002 Mw2003 => (lp_L_sum_44 n Mw2003 (((31) * (u)) + (Int32.toInt64 (r2002))) (z + 1))))
def lp_L_sum_6 (fu : Nat) (M : MM) (u : Int64) (z : Int32) : Option (Int64 × MM) := match fu with
  | 0 => none
  | n + 1 => (if (10 : Int32) ≤ (z : Int32) then (lp_L_sum_44 FU M u 20) else (if (z : Int32) = (8 : Int32) then (lp_L_sum_6 n M u (z + 1)) else (bnd2 (f_X10_count M z) fun r1003 Mw1004 => (lp_L_sum_6 n Mw1004 (((31) * (u)) + (Int32.toInt64 (r1003))) (z + 1)))))
def f_L_sum (M : MM)  : Option (Int64 × MM) := (lp_L_sum_6 FU M 17 0)
set_option maxHeartbeats 4000000 in
set_option maxRecDepth 100000 in
theorem t_L_sum_182 (l : Launch) (g : GD)  {p : Program} {e : Env} {s : State} {m : MethodId} {av : Array Value} {below : List Frame} {meth : Method} {c : Code} (n : Nat) : ∀ (M : MM) (u : Int64) (z : Int32) (r : Int64) (M2 : MM), lp_L_sum_182 n M u z = some (r, M2) → CX p s m av c cL_sum 4 RL g → meth.sig.returnType = (some .long) → meth.locks = false → ∀ (H : Heap) (locs : List Loc), Wd g M H → sU g s H locs → ∀ ls : Array Slot, lv_has ls 4 [(0, rf g (0)), (1, .long (u)), (3, .int (z))] → W p l e (RM 5 128) s m av below meth c H locs 0 0 (MQ below (QU g (fun v w0 => v = .long r ∧ M2 = w0)) av s 0 0 (AU g)) (F0 m 182 ls []) := by
  induction n with
  | zero => intro M u z r M2 h; cases h
  | succ n ih0 =>
    intro M u z r M2 h C hr hlk H locs hW hS ls hl
    have ih : ∀ (M : MM) (u : Int64) (z : Int32), lp_L_sum_182 n M u z = some (r, M2) → ∀ (H : Heap) (locs : List Loc), Wd g M H → sU g s H locs → ∀ ls : Array Slot, lv_has ls 4 [(0, rf g (0)), (1, .long (u)), (3, .int (z))] → W p l e (RM 5 128) s m av below meth c H locs 0 0 (MQ below (QU g (fun v w0 => v = .long r ∧ M2 = w0)) av s 0 0 (AU g)) (F0 m 182 ls []) := fun M u z h H locs hW hS ls hl => ih0 M u z r M2 h C hr hlk H locs hW hS ls hl
    unfold lp_L_sum_182 at h
    try dsimp only at h
    have hx := C.1
    have hb := C.2.1
    have hts := C.2.2.2.2.1
    refine lv_iload_n hx hb dL_sum_182 rfl (lv_at hl 2 rfl) ?_
    refine lv_bipush (v := 6) hx hb dL_sum_183 (by decide) ?_
    refine lv_aload_n hx hb dL_sum_185 rfl (lv_at hl 0 rfl) ?_
    refine lv_iconst (v := 5) hx hb dL_sum_186 (by decide) ?_
    obtain ⟨r6001, Mw6002, h6003, h⟩ := bind2 h
    refine cBackC C.2.2.2.2.2.2.2.2 (runVU (As := [.int (5)]) (rest := [.int (6), .int (z)]) C hW hS (c_X10_count l g M 5 _ _ h6003) kV_X10_count ml_L_13 (by decide) tm_BF rfl rfl rfl hl.1 rfl (Nat.le_of_ble_eq_true rfl) ⟨Nat.le_of_ble_eq_true rfl, Nat.le_of_ble_eq_true rfl⟩ ⟨Nat.zero_le _, Nat.zero_le _⟩ dL_sum_187) hS (fun v0 w0 H locs hp hW hS hq => ?_)
    obtain ⟨rfl, rfl⟩ := hp
    refine lv_imul hx hb dL_sum_190 ?_
    refine lv_icmp_ge (tgt := 220) hx hb dL_sum_191 (by decide) (fun c6004 => ?_) (fun c6004 => ?_)
    · rw [if_pos c6004] at h
      refine lv_lload_n hx hb dL_sum_220 rfl (lv_at hl 1 rfl) ?_
      cases h
      exact rLU C hr hlk dL_sum_221 hW hS ⟨rfl, rfl⟩
    · rw [if_neg c6004] at h
      refine lv_ldc2 hx hb C.2.2.2.1 (C.2.2.2.2.1 _ kc_L_11) dL_sum_194 ?_
      refine lv_lload_n hx hb dL_sum_197 rfl (lv_at hl 1 rfl) ?_
      refine lv_lmul hx hb dL_sum_198 ?_
      refine lv_aload_n hx hb dL_sum_199 rfl (lv_at hl 0 rfl) ?_
      refine lv_iload_n hx hb dL_sum_200 rfl (lv_at hl 2 rfl) ?_
      refine lv_bipush (v := 6) hx hb dL_sum_201 (by decide) ?_
      refine lv_idiv hx hb dL_sum_203 (by decide) ?_
      refine lv_iload_n hx hb dL_sum_204 rfl (lv_at hl 2 rfl) ?_
      refine lv_bipush (v := 6) hx hb dL_sum_205 (by decide) ?_
      refine lv_irem hx hb dL_sum_207 (by decide) ?_
      obtain ⟨r6007, Mw6008, h6009, h⟩ := bind2 h
      refine cBackC C.2.2.2.2.2.2.2.2 (runVU (As := [.int ((z) / (6)), .int ((z) - (z) / (6) * (6))]) (rest := [.long ((31) * (u))]) C hW hS (c_X10_orderOf l g Mw6002 ((z) / (6)) ((z) - (z) / (6) * (6)) _ _ h6009) kV_X10_orderOf ml_L_29 (by decide) tm_BF rfl rfl rfl hl.1 rfl (Nat.le_of_ble_eq_true rfl) ⟨Nat.le_of_ble_eq_true rfl, Nat.le_of_ble_eq_true rfl⟩ ⟨Nat.zero_le _, Nat.zero_le _⟩ dL_sum_208) hS (fun v0 w0 H locs hp hW hS hq => ?_)
      obtain ⟨rfl, rfl⟩ := hp
      refine lv_i2l hx hb dL_sum_211 rfl ?_
      refine lv_ladd hx hb dL_sum_212 ?_
      refine lv_lstore_n (lv' := [(1, .long (((31) * (u)) + (Int32.toInt64 (r6007)))), (0, rf g (0)), (3, .int (z))]) hx hb dL_sum_213 rfl hl (by decide) rfl (fun ls hl => ?_)
      refine lv_iinc (v := z + 1) (lv' := [(3, .int (z + 1)), (1, .long (((31) * (u)) + (Int32.toInt64 (r6007)))), (0, rf g (0))]) hx hb dL_sum_214 hl (k := 2) rfl rfl (by decide) rfl (fun ls hl => ?_)
      refine lv_goto (tgt := 182) hx hb dL_sum_217 (by decide) ?_
      exact ih Mw6008 (((31) * (u)) + (Int32.toInt64 (r6007))) (z + 1) h _ _ hW hS ls (lv_sub hl [2, 1, 0] rfl)
set_option maxHeartbeats 4000000 in
set_option maxRecDepth 100000 in
theorem t_L_sum_142 (l : Launch) (g : GD)  {p : Program} {e : Env} {s : State} {m : MethodId} {av : Array Value} {below : List Frame} {meth : Method} {c : Code} (n : Nat) : ∀ (M : MM) (u : Int64) (z : Int32) (r : Int64) (M2 : MM), lp_L_sum_142 n M u z = some (r, M2) → CX p s m av c cL_sum 4 RL g → meth.sig.returnType = (some .long) → meth.locks = false → ∀ (H : Heap) (locs : List Loc), Wd g M H → sU g s H locs → ∀ ls : Array Slot, lv_has ls 4 [(0, rf g (0)), (1, .long (u)), (3, .int (z))] → W p l e (RM 5 128) s m av below meth c H locs 0 0 (MQ below (QU g (fun v w0 => v = .long r ∧ M2 = w0)) av s 0 0 (AU g)) (F0 m 142 ls []) := by
  induction n with
  | zero => intro M u z r M2 h; cases h
  | succ n ih0 =>
    intro M u z r M2 h C hr hlk H locs hW hS ls hl
    have ih : ∀ (M : MM) (u : Int64) (z : Int32), lp_L_sum_142 n M u z = some (r, M2) → ∀ (H : Heap) (locs : List Loc), Wd g M H → sU g s H locs → ∀ ls : Array Slot, lv_has ls 4 [(0, rf g (0)), (1, .long (u)), (3, .int (z))] → W p l e (RM 5 128) s m av below meth c H locs 0 0 (MQ below (QU g (fun v w0 => v = .long r ∧ M2 = w0)) av s 0 0 (AU g)) (F0 m 142 ls []) := fun M u z h H locs hW hS ls hl => ih0 M u z r M2 h C hr hlk H locs hW hS ls hl
    unfold lp_L_sum_142 at h
    try dsimp only at h
    have hx := C.1
    have hb := C.2.1
    have hts := C.2.2.2.2.1
    refine lv_iload_n hx hb dL_sum_142 rfl (lv_at hl 2 rfl) ?_
    refine lv_bipush (v := 10) hx hb dL_sum_143 (by decide) ?_
    refine lv_aload_n hx hb dL_sum_145 rfl (lv_at hl 0 rfl) ?_
    refine lv_iconst (v := 1) hx hb dL_sum_146 (by decide) ?_
    obtain ⟨r5001, Mw5002, h5003, h⟩ := bind2 h
    refine cBackC C.2.2.2.2.2.2.2.2 (runVU (As := [.int (1)]) (rest := [.int (10), .int (z)]) C hW hS (c_X10_count l g M 1 _ _ h5003) kV_X10_count ml_L_13 (by decide) tm_BF rfl rfl rfl hl.1 rfl (Nat.le_of_ble_eq_true rfl) ⟨Nat.le_of_ble_eq_true rfl, Nat.le_of_ble_eq_true rfl⟩ ⟨Nat.zero_le _, Nat.zero_le _⟩ dL_sum_147) hS (fun v0 w0 H locs hp hW hS hq => ?_)
    obtain ⟨rfl, rfl⟩ := hp
    refine lv_imul hx hb dL_sum_150 ?_
    refine lv_icmp_ge (tgt := 180) hx hb dL_sum_151 (by decide) (fun c5004 => ?_) (fun c5004 => ?_)
    · rw [if_pos c5004] at h
      refine lv_iconst (v := 0) hx hb dL_sum_180 (by decide) ?_
      refine lv_istore_n (lv' := [(3, .int (0)), (0, rf g (0)), (1, .long (u))]) hx hb dL_sum_181 rfl hl (by decide) rfl (fun ls hl => ?_)
      exact t_L_sum_182 l g FU Mw5002 u 0 _ _ h C hr hlk _ _ hW hS ls (lv_sub hl [1, 2, 0] rfl)
    · rw [if_neg c5004] at h
      refine lv_ldc2 hx hb C.2.2.2.1 (C.2.2.2.2.1 _ kc_L_11) dL_sum_154 ?_
      refine lv_lload_n hx hb dL_sum_157 rfl (lv_at hl 1 rfl) ?_
      refine lv_lmul hx hb dL_sum_158 ?_
      refine lv_aload_n hx hb dL_sum_159 rfl (lv_at hl 0 rfl) ?_
      refine lv_iload_n hx hb dL_sum_160 rfl (lv_at hl 2 rfl) ?_
      refine lv_bipush (v := 10) hx hb dL_sum_161 (by decide) ?_
      refine lv_idiv hx hb dL_sum_163 (by decide) ?_
      refine lv_iload_n hx hb dL_sum_164 rfl (lv_at hl 2 rfl) ?_
      refine lv_bipush (v := 10) hx hb dL_sum_165 (by decide) ?_
      refine lv_irem hx hb dL_sum_167 (by decide) ?_
      obtain ⟨r5007, Mw5008, h5009, h⟩ := bind2 h
      refine cBackC C.2.2.2.2.2.2.2.2 (runVU (As := [.int ((z) / (10)), .int ((z) - (z) / (10) * (10))]) (rest := [.long ((31) * (u))]) C hW hS (c_X10_bell l g Mw5002 ((z) / (10)) ((z) - (z) / (10) * (10)) _ _ h5009) kV_X10_bell ml_L_26 (by decide) tm_BF rfl rfl rfl hl.1 rfl (Nat.le_of_ble_eq_true rfl) ⟨Nat.le_of_ble_eq_true rfl, Nat.le_of_ble_eq_true rfl⟩ ⟨Nat.zero_le _, Nat.zero_le _⟩ dL_sum_168) hS (fun v0 w0 H locs hp hW hS hq => ?_)
      obtain ⟨rfl, rfl⟩ := hp
      refine lv_i2l hx hb dL_sum_171 rfl ?_
      refine lv_ladd hx hb dL_sum_172 ?_
      refine lv_lstore_n (lv' := [(1, .long (((31) * (u)) + (Int32.toInt64 (r5007)))), (0, rf g (0)), (3, .int (z))]) hx hb dL_sum_173 rfl hl (by decide) rfl (fun ls hl => ?_)
      refine lv_iinc (v := z + 1) (lv' := [(3, .int (z + 1)), (1, .long (((31) * (u)) + (Int32.toInt64 (r5007)))), (0, rf g (0))]) hx hb dL_sum_174 hl (k := 2) rfl rfl (by decide) rfl (fun ls hl => ?_)
      refine lv_goto (tgt := 142) hx hb dL_sum_177 (by decide) ?_
      exact ih Mw5008 (((31) * (u)) + (Int32.toInt64 (r5007))) (z + 1) h _ _ hW hS ls (lv_sub hl [2, 1, 0] rfl)
set_option maxHeartbeats 4000000 in
set_option maxRecDepth 100000 in
theorem t_L_sum_105 (l : Launch) (g : GD)  {p : Program} {e : Env} {s : State} {m : MethodId} {av : Array Value} {below : List Frame} {meth : Method} {c : Code} (n : Nat) : ∀ (M : MM) (u : Int64) (z : Int32) (r : Int64) (M2 : MM), lp_L_sum_105 n M u z = some (r, M2) → CX p s m av c cL_sum 4 RL g → meth.sig.returnType = (some .long) → meth.locks = false → ∀ (H : Heap) (locs : List Loc), Wd g M H → sU g s H locs → ∀ ls : Array Slot, lv_has ls 4 [(0, rf g (0)), (1, .long (u)), (3, .int (z))] → W p l e (RM 5 128) s m av below meth c H locs 0 0 (MQ below (QU g (fun v w0 => v = .long r ∧ M2 = w0)) av s 0 0 (AU g)) (F0 m 105 ls []) := by
  induction n with
  | zero => intro M u z r M2 h; cases h
  | succ n ih0 =>
    intro M u z r M2 h C hr hlk H locs hW hS ls hl
    have ih : ∀ (M : MM) (u : Int64) (z : Int32), lp_L_sum_105 n M u z = some (r, M2) → ∀ (H : Heap) (locs : List Loc), Wd g M H → sU g s H locs → ∀ ls : Array Slot, lv_has ls 4 [(0, rf g (0)), (1, .long (u)), (3, .int (z))] → W p l e (RM 5 128) s m av below meth c H locs 0 0 (MQ below (QU g (fun v w0 => v = .long r ∧ M2 = w0)) av s 0 0 (AU g)) (F0 m 105 ls []) := fun M u z h H locs hW hS ls hl => ih0 M u z r M2 h C hr hlk H locs hW hS ls hl
    unfold lp_L_sum_105 at h
    try dsimp only at h
    have hx := C.1
    have hb := C.2.1
    have hts := C.2.2.2.2.1
    refine lv_iload_n hx hb dL_sum_105 rfl (lv_at hl 2 rfl) ?_
    refine lv_iconst (v := 5) hx hb dL_sum_106 (by decide) ?_
    refine lv_aload_n hx hb dL_sum_107 rfl (lv_at hl 0 rfl) ?_
    refine lv_iconst (v := 0) hx hb dL_sum_108 (by decide) ?_
    obtain ⟨r4001, Mw4002, h4003, h⟩ := bind2 h
    refine cBackC C.2.2.2.2.2.2.2.2 (runVU (As := [.int (0)]) (rest := [.int (5), .int (z)]) C hW hS (c_X10_count l g M 0 _ _ h4003) kV_X10_count ml_L_13 (by decide) tm_BF rfl rfl rfl hl.1 rfl (Nat.le_of_ble_eq_true rfl) ⟨Nat.le_of_ble_eq_true rfl, Nat.le_of_ble_eq_true rfl⟩ ⟨Nat.zero_le _, Nat.zero_le _⟩ dL_sum_109) hS (fun v0 w0 H locs hp hW hS hq => ?_)
    obtain ⟨rfl, rfl⟩ := hp
    refine lv_imul hx hb dL_sum_112 ?_
    refine lv_icmp_ge (tgt := 140) hx hb dL_sum_113 (by decide) (fun c4004 => ?_) (fun c4004 => ?_)
    · rw [if_pos c4004] at h
      refine lv_iconst (v := 0) hx hb dL_sum_140 (by decide) ?_
      refine lv_istore_n (lv' := [(3, .int (0)), (0, rf g (0)), (1, .long (u))]) hx hb dL_sum_141 rfl hl (by decide) rfl (fun ls hl => ?_)
      exact t_L_sum_142 l g FU Mw4002 u 0 _ _ h C hr hlk _ _ hW hS ls (lv_sub hl [1, 2, 0] rfl)
    · rw [if_neg c4004] at h
      refine lv_ldc2 hx hb C.2.2.2.1 (C.2.2.2.2.1 _ kc_L_11) dL_sum_116 ?_
      refine lv_lload_n hx hb dL_sum_119 rfl (lv_at hl 1 rfl) ?_
      refine lv_lmul hx hb dL_sum_120 ?_
      refine lv_aload_n hx hb dL_sum_121 rfl (lv_at hl 0 rfl) ?_
      refine lv_iload_n hx hb dL_sum_122 rfl (lv_at hl 2 rfl) ?_
      refine lv_iconst (v := 5) hx hb dL_sum_123 (by decide) ?_
      refine lv_idiv hx hb dL_sum_124 (by decide) ?_
      refine lv_iload_n hx hb dL_sum_125 rfl (lv_at hl 2 rfl) ?_
      refine lv_iconst (v := 5) hx hb dL_sum_126 (by decide) ?_
      refine lv_irem hx hb dL_sum_127 (by decide) ?_
      obtain ⟨r4007, Mw4008, h4009, h⟩ := bind2 h
      refine cBackC C.2.2.2.2.2.2.2.2 (runVU (As := [.int ((z) / (5)), .int ((z) - (z) / (5) * (5))]) (rest := [.long ((31) * (u))]) C hW hS (c_X10_lot l g Mw4002 ((z) / (5)) ((z) - (z) / (5) * (5)) _ _ h4009) kV_X10_lot ml_L_23 (by decide) tm_BF rfl rfl rfl hl.1 rfl (Nat.le_of_ble_eq_true rfl) ⟨Nat.le_of_ble_eq_true rfl, Nat.le_of_ble_eq_true rfl⟩ ⟨Nat.zero_le _, Nat.zero_le _⟩ dL_sum_128) hS (fun v0 w0 H locs hp hW hS hq => ?_)
      obtain ⟨rfl, rfl⟩ := hp
      refine lv_i2l hx hb dL_sum_131 rfl ?_
      refine lv_ladd hx hb dL_sum_132 ?_
      refine lv_lstore_n (lv' := [(1, .long (((31) * (u)) + (Int32.toInt64 (r4007)))), (0, rf g (0)), (3, .int (z))]) hx hb dL_sum_133 rfl hl (by decide) rfl (fun ls hl => ?_)
      refine lv_iinc (v := z + 1) (lv' := [(3, .int (z + 1)), (1, .long (((31) * (u)) + (Int32.toInt64 (r4007)))), (0, rf g (0))]) hx hb dL_sum_134 hl (k := 2) rfl rfl (by decide) rfl (fun ls hl => ?_)
      refine lv_goto (tgt := 105) hx hb dL_sum_137 (by decide) ?_
      exact ih Mw4008 (((31) * (u)) + (Int32.toInt64 (r4007))) (z + 1) h _ _ hW hS ls (lv_sub hl [2, 1, 0] rfl)
set_option maxHeartbeats 4000000 in
set_option maxRecDepth 100000 in
theorem t_L_sum_71 (l : Launch) (g : GD)  {p : Program} {e : Env} {s : State} {m : MethodId} {av : Array Value} {below : List Frame} {meth : Method} {c : Code} (n : Nat) : ∀ (M : MM) (u : Int64) (z : Int32) (r : Int64) (M2 : MM), lp_L_sum_71 n M u z = some (r, M2) → CX p s m av c cL_sum 4 RL g → meth.sig.returnType = (some .long) → meth.locks = false → ∀ (H : Heap) (locs : List Loc), Wd g M H → sU g s H locs → ∀ ls : Array Slot, lv_has ls 4 [(0, rf g (0)), (1, .long (u)), (3, .int (z))] → W p l e (RM 5 128) s m av below meth c H locs 0 0 (MQ below (QU g (fun v w0 => v = .long r ∧ M2 = w0)) av s 0 0 (AU g)) (F0 m 71 ls []) := by
  induction n with
  | zero => intro M u z r M2 h; cases h
  | succ n ih0 =>
    intro M u z r M2 h C hr hlk H locs hW hS ls hl
    have ih : ∀ (M : MM) (u : Int64) (z : Int32), lp_L_sum_71 n M u z = some (r, M2) → ∀ (H : Heap) (locs : List Loc), Wd g M H → sU g s H locs → ∀ ls : Array Slot, lv_has ls 4 [(0, rf g (0)), (1, .long (u)), (3, .int (z))] → W p l e (RM 5 128) s m av below meth c H locs 0 0 (MQ below (QU g (fun v w0 => v = .long r ∧ M2 = w0)) av s 0 0 (AU g)) (F0 m 71 ls []) := fun M u z h H locs hW hS ls hl => ih0 M u z r M2 h C hr hlk H locs hW hS ls hl
    unfold lp_L_sum_71 at h
    try dsimp only at h
    have hx := C.1
    have hb := C.2.1
    have hts := C.2.2.2.2.1
    refine lv_iload_n hx hb dL_sum_71 rfl (lv_at hl 2 rfl) ?_
    refine lv_bipush (v := 14) hx hb dL_sum_72 (by decide) ?_
    refine lv_icmp_ge (tgt := 103) hx hb dL_sum_74 (by decide) (fun c3001 => ?_) (fun c3001 => ?_)
    · rw [if_pos c3001] at h
      refine lv_iconst (v := 0) hx hb dL_sum_103 (by decide) ?_
      refine lv_istore_n (lv' := [(3, .int (0)), (0, rf g (0)), (1, .long (u))]) hx hb dL_sum_104 rfl hl (by decide) rfl (fun ls hl => ?_)
      exact t_L_sum_105 l g FU M u 0 _ _ h C hr hlk _ _ hW hS ls (lv_sub hl [1, 2, 0] rfl)
    · rw [if_neg c3001] at h
      refine lv_ldc2 hx hb C.2.2.2.1 (C.2.2.2.2.1 _ kc_L_11) dL_sum_77 ?_
      refine lv_lload_n hx hb dL_sum_80 rfl (lv_at hl 1 rfl) ?_
      refine lv_lmul hx hb dL_sum_81 ?_
      refine lv_aload_n hx hb dL_sum_82 rfl (lv_at hl 0 rfl) ?_
      refine lv_iload_n hx hb dL_sum_83 rfl (lv_at hl 2 rfl) ?_
      refine lv_bipush (v := 7) hx hb dL_sum_84 (by decide) ?_
      refine lv_idiv hx hb dL_sum_86 (by decide) ?_
      refine lv_iload_n hx hb dL_sum_87 rfl (lv_at hl 2 rfl) ?_
      refine lv_bipush (v := 7) hx hb dL_sum_88 (by decide) ?_
      refine lv_irem hx hb dL_sum_90 (by decide) ?_
      obtain ⟨r3004, Mw3005, h3006, h⟩ := bind2 h
      refine cBackC C.2.2.2.2.2.2.2.2 (runVU (As := [.int ((z) / (7)), .int ((z) - (z) / (7) * (7))]) (rest := [.long ((31) * (u))]) C hW hS (c_X10_account l g M ((z) / (7)) ((z) - (z) / (7) * (7)) _ _ h3006) kV_X10_account ml_L_19 (by decide) tm_BF rfl rfl rfl hl.1 rfl (Nat.le_of_ble_eq_true rfl) ⟨Nat.le_of_ble_eq_true rfl, Nat.le_of_ble_eq_true rfl⟩ ⟨Nat.zero_le _, Nat.zero_le _⟩ dL_sum_91) hS (fun v0 w0 H locs hp hW hS hq => ?_)
      obtain ⟨rfl, rfl⟩ := hp
      refine lv_i2l hx hb dL_sum_94 rfl ?_
      refine lv_ladd hx hb dL_sum_95 ?_
      refine lv_lstore_n (lv' := [(1, .long (((31) * (u)) + (Int32.toInt64 (r3004)))), (0, rf g (0)), (3, .int (z))]) hx hb dL_sum_96 rfl hl (by decide) rfl (fun ls hl => ?_)
      refine lv_iinc (v := z + 1) (lv' := [(3, .int (z + 1)), (1, .long (((31) * (u)) + (Int32.toInt64 (r3004)))), (0, rf g (0))]) hx hb dL_sum_97 hl (k := 2) rfl rfl (by decide) rfl (fun ls hl => ?_)
      refine lv_goto (tgt := 71) hx hb dL_sum_100 (by decide) ?_
      exact ih Mw3005 (((31) * (u)) + (Int32.toInt64 (r3004))) (z + 1) h _ _ hW hS ls (lv_sub hl [2, 1, 0] rfl)
set_option maxHeartbeats 4000000 in
set_option maxRecDepth 100000 in
theorem t_L_sum_44 (l : Launch) (g : GD)  {p : Program} {e : Env} {s : State} {m : MethodId} {av : Array Value} {below : List Frame} {meth : Method} {c : Code} (n : Nat) : ∀ (M : MM) (u : Int64) (z : Int32) (r : Int64) (M2 : MM), lp_L_sum_44 n M u z = some (r, M2) → CX p s m av c cL_sum 4 RL g → meth.sig.returnType = (some .long) → meth.locks = false → ∀ (H : Heap) (locs : List Loc), Wd g M H → sU g s H locs → ∀ ls : Array Slot, lv_has ls 4 [(0, rf g (0)), (1, .long (u)), (3, .int (z))] → W p l e (RM 5 128) s m av below meth c H locs 0 0 (MQ below (QU g (fun v w0 => v = .long r ∧ M2 = w0)) av s 0 0 (AU g)) (F0 m 44 ls []) := by
  induction n with
  | zero => intro M u z r M2 h; cases h
  | succ n ih0 =>
    intro M u z r M2 h C hr hlk H locs hW hS ls hl
    have ih : ∀ (M : MM) (u : Int64) (z : Int32), lp_L_sum_44 n M u z = some (r, M2) → ∀ (H : Heap) (locs : List Loc), Wd g M H → sU g s H locs → ∀ ls : Array Slot, lv_has ls 4 [(0, rf g (0)), (1, .long (u)), (3, .int (z))] → W p l e (RM 5 128) s m av below meth c H locs 0 0 (MQ below (QU g (fun v w0 => v = .long r ∧ M2 = w0)) av s 0 0 (AU g)) (F0 m 44 ls []) := fun M u z h H locs hW hS ls hl => ih0 M u z r M2 h C hr hlk H locs hW hS ls hl
    unfold lp_L_sum_44 at h
    try dsimp only at h
    have hx := C.1
    have hb := C.2.1
    have hts := C.2.2.2.2.1
    refine lv_iload_n hx hb dL_sum_44 rfl (lv_at hl 2 rfl) ?_
    refine lv_bipush (v := 27) hx hb dL_sum_45 (by decide) ?_
    refine lv_icmp_ge (tgt := 69) hx hb dL_sum_47 (by decide) (fun c2001 => ?_) (fun c2001 => ?_)
    · rw [if_pos c2001] at h
      refine lv_iconst (v := 0) hx hb dL_sum_69 (by decide) ?_
      refine lv_istore_n (lv' := [(3, .int (0)), (0, rf g (0)), (1, .long (u))]) hx hb dL_sum_70 rfl hl (by decide) rfl (fun ls hl => ?_)
      exact t_L_sum_71 l g FU M u 0 _ _ h C hr hlk _ _ hW hS ls (lv_sub hl [1, 2, 0] rfl)
    · rw [if_neg c2001] at h
      refine lv_ldc2 hx hb C.2.2.2.1 (C.2.2.2.2.1 _ kc_L_11) dL_sum_50 ?_
      refine lv_lload_n hx hb dL_sum_53 rfl (lv_at hl 1 rfl) ?_
      refine lv_lmul hx hb dL_sum_54 ?_
      refine lv_aload_n hx hb dL_sum_55 rfl (lv_at hl 0 rfl) ?_
      refine lv_iload_n hx hb dL_sum_56 rfl (lv_at hl 2 rfl) ?_
      obtain ⟨r2002, Mw2003, h2004, h⟩ := bind2 h
      refine cBackC C.2.2.2.2.2.2.2.2 (runVU (As := [.int (z)]) (rest := [.long ((31) * (u))]) C hW hS (c_X10_count l g M z _ _ h2004) kV_X10_count ml_L_13 (by decide) tm_BF rfl rfl rfl hl.1 rfl (Nat.le_of_ble_eq_true rfl) ⟨Nat.le_of_ble_eq_true rfl, Nat.le_of_ble_eq_true rfl⟩ ⟨Nat.zero_le _, Nat.zero_le _⟩ dL_sum_57) hS (fun v0 w0 H locs hp hW hS hq => ?_)
      obtain ⟨rfl, rfl⟩ := hp
      refine lv_i2l hx hb dL_sum_60 rfl ?_
      refine lv_ladd hx hb dL_sum_61 ?_
      refine lv_lstore_n (lv' := [(1, .long (((31) * (u)) + (Int32.toInt64 (r2002)))), (0, rf g (0)), (3, .int (z))]) hx hb dL_sum_62 rfl hl (by decide) rfl (fun ls hl => ?_)
      refine lv_iinc (v := z + 1) (lv' := [(3, .int (z + 1)), (1, .long (((31) * (u)) + (Int32.toInt64 (r2002)))), (0, rf g (0))]) hx hb dL_sum_63 hl (k := 2) rfl rfl (by decide) rfl (fun ls hl => ?_)
      refine lv_goto (tgt := 44) hx hb dL_sum_66 (by decide) ?_
      exact ih Mw2003 (((31) * (u)) + (Int32.toInt64 (r2002))) (z + 1) h _ _ hW hS ls (lv_sub hl [2, 1, 0] rfl)
set_option maxHeartbeats 4000000 in
set_option maxRecDepth 100000 in
theorem t_L_sum_6 (l : Launch) (g : GD)  {p : Program} {e : Env} {s : State} {m : MethodId} {av : Array Value} {below : List Frame} {meth : Method} {c : Code} (n : Nat) : ∀ (M : MM) (u : Int64) (z : Int32) (r : Int64) (M2 : MM), lp_L_sum_6 n M u z = some (r, M2) → CX p s m av c cL_sum 4 RL g → meth.sig.returnType = (some .long) → meth.locks = false → ∀ (H : Heap) (locs : List Loc), Wd g M H → sU g s H locs → ∀ ls : Array Slot, lv_has ls 4 [(0, rf g (0)), (1, .long (u)), (3, .int (z))] → W p l e (RM 5 128) s m av below meth c H locs 0 0 (MQ below (QU g (fun v w0 => v = .long r ∧ M2 = w0)) av s 0 0 (AU g)) (F0 m 6 ls []) := by
  induction n with
  | zero => intro M u z r M2 h; cases h
  | succ n ih0 =>
    intro M u z r M2 h C hr hlk H locs hW hS ls hl
    have ih : ∀ (M : MM) (u : Int64) (z : Int32), lp_L_sum_6 n M u z = some (r, M2) → ∀ (H : Heap) (locs : List Loc), Wd g M H → sU g s H locs → ∀ ls : Array Slot, lv_has ls 4 [(0, rf g (0)), (1, .long (u)), (3, .int (z))] → W p l e (RM 5 128) s m av below meth c H locs 0 0 (MQ below (QU g (fun v w0 => v = .long r ∧ M2 = w0)) av s 0 0 (AU g)) (F0 m 6 ls []) := fun M u z h H locs hW hS ls hl => ih0 M u z r M2 h C hr hlk H locs hW hS ls hl
    unfold lp_L_sum_6 at h
    try dsimp only at h
    have hx := C.1
    have hb := C.2.1
    have hts := C.2.2.2.2.1
    refine lv_iload_n hx hb dL_sum_6 rfl (lv_at hl 2 rfl) ?_
    refine lv_bipush (v := 10) hx hb dL_sum_7 (by decide) ?_
    refine lv_icmp_ge (tgt := 41) hx hb dL_sum_9 (by decide) (fun c1001 => ?_) (fun c1001 => ?_)
    · rw [if_pos c1001] at h
      refine lv_bipush (v := 20) hx hb dL_sum_41 (by decide) ?_
      refine lv_istore_n (lv' := [(3, .int (20)), (0, rf g (0)), (1, .long (u))]) hx hb dL_sum_43 rfl hl (by decide) rfl (fun ls hl => ?_)
      exact t_L_sum_44 l g FU M u 20 _ _ h C hr hlk _ _ hW hS ls (lv_sub hl [1, 2, 0] rfl)
    · rw [if_neg c1001] at h
      refine lv_iload_n hx hb dL_sum_12 rfl (lv_at hl 2 rfl) ?_
      refine lv_bipush (v := 8) hx hb dL_sum_13 (by decide) ?_
      refine lv_icmp_ne (tgt := 22) hx hb dL_sum_15 (by decide) (fun c1002 => ?_) (fun c1002 => ?_)
      · rw [if_neg c1002] at h
        refine lv_ldc2 hx hb C.2.2.2.1 (C.2.2.2.2.1 _ kc_L_11) dL_sum_22 ?_
        refine lv_lload_n hx hb dL_sum_25 rfl (lv_at hl 1 rfl) ?_
        refine lv_lmul hx hb dL_sum_26 ?_
        refine lv_aload_n hx hb dL_sum_27 rfl (lv_at hl 0 rfl) ?_
        refine lv_iload_n hx hb dL_sum_28 rfl (lv_at hl 2 rfl) ?_
        obtain ⟨r1003, Mw1004, h1005, h⟩ := bind2 h
        refine cBackC C.2.2.2.2.2.2.2.2 (runVU (As := [.int (z)]) (rest := [.long ((31) * (u))]) C hW hS (c_X10_count l g M z _ _ h1005) kV_X10_count ml_L_13 (by decide) tm_BF rfl rfl rfl hl.1 rfl (Nat.le_of_ble_eq_true rfl) ⟨Nat.le_of_ble_eq_true rfl, Nat.le_of_ble_eq_true rfl⟩ ⟨Nat.zero_le _, Nat.zero_le _⟩ dL_sum_29) hS (fun v0 w0 H locs hp hW hS hq => ?_)
        obtain ⟨rfl, rfl⟩ := hp
        refine lv_i2l hx hb dL_sum_32 rfl ?_
        refine lv_ladd hx hb dL_sum_33 ?_
        refine lv_lstore_n (lv' := [(1, .long (((31) * (u)) + (Int32.toInt64 (r1003)))), (0, rf g (0)), (3, .int (z))]) hx hb dL_sum_34 rfl hl (by decide) rfl (fun ls hl => ?_)
        refine lv_iinc (v := z + 1) (lv' := [(3, .int (z + 1)), (1, .long (((31) * (u)) + (Int32.toInt64 (r1003)))), (0, rf g (0))]) hx hb dL_sum_35 hl (k := 2) rfl rfl (by decide) rfl (fun ls hl => ?_)
        refine lv_goto (tgt := 6) hx hb dL_sum_38 (by decide) ?_
        exact ih Mw1004 (((31) * (u)) + (Int32.toInt64 (r1003))) (z + 1) h _ _ hW hS ls (lv_sub hl [2, 1, 0] rfl)
      · rw [if_pos c1002] at h
        refine lv_lload_n hx hb dL_sum_18 rfl (lv_at hl 1 rfl) ?_
        refine lv_goto (tgt := 34) hx hb dL_sum_19 (by decide) ?_
        refine lv_lstore_n (lv' := [(1, .long (u)), (0, rf g (0)), (3, .int (z))]) hx hb dL_sum_34 rfl hl (by decide) rfl (fun ls hl => ?_)
        refine lv_iinc (v := z + 1) (lv' := [(3, .int (z + 1)), (1, .long (u)), (0, rf g (0))]) hx hb dL_sum_35 hl (k := 2) rfl rfl (by decide) rfl (fun ls hl => ?_)
        refine lv_goto (tgt := 6) hx hb dL_sum_38 (by decide) ?_
        exact ih M u (z + 1) h _ _ hW hS ls (lv_sub hl [2, 1, 0] rfl)
set_option maxHeartbeats 4000000 in
set_option maxRecDepth 100000 in
theorem c_L_sum (l : Launch) (g : GD) (M : MM)  (r : Int64) (M2 : MM) (h : f_L_sum M  = some (r, M2)) : Met l yL_sum (wm yL_sum cL_sum 4 (some .long)) (RM 5 128) (va_Pc [rf g (0)] (WDp g M)) (QU g (fun v w0 => v = .long r ∧ M2 = w0)) 0 0 (AU g) := by
  refine mkU (by decide +kernel) (Nat.le_of_ble_eq_true rfl) ?_
  intro p e s m below meth c C hr hlk hW hS ls hl
  have hl : lv_has ls 4 [(0, rf g (0))] := hl
  have hx := C.1
  have hb := C.2.1
  have hts := C.2.2.2.2.1
  unfold f_L_sum at h
  refine lv_ldc2 hx hb C.2.2.2.1 (C.2.2.2.2.1 _ kc_L_9) dL_sum_0 ?_
  refine lv_lstore_n (lv' := [(1, .long (17)), (0, rf g (0))]) hx hb dL_sum_3 rfl hl (by decide) rfl (fun ls hl => ?_)
  refine lv_iconst (v := 0) hx hb dL_sum_4 (by decide) ?_
  refine lv_istore_n (lv' := [(3, .int (0)), (1, .long (17)), (0, rf g (0))]) hx hb dL_sum_5 rfl hl (by decide) rfl (fun ls hl => ?_)
  exact t_L_sum_6 l g FU M 17 0 _ _ h C hr hlk _ _ hW hS ls (lv_sub hl [2, 1, 0] rfl)
def f_L_refused (M : MM)  : Option (Int32 × MM) := (bnd2 (f_L_sum M ) fun r1 Mw2 => (bnd2 (f_X10_count Mw2 8) fun r4 Mw5 => (bnd2 (f_X10_count Mw5 1) fun r7 Mw8 => (bnd2 (f_X10_count Mw8 5) fun r10 Mw11 => (bnd2 (f_X10_buy Mw11 0 0) fun r13 Mw14 => (if (r13 : Int32) = (-1 : Int32) then (bnd2 (f_X10_charge Mw14 2 1) fun r17 Mw18 => (if (r17 : Int32) = (-1 : Int32) then (bnd2 (f_X10_count Mw18 0) fun r21 Mw22 => (bnd2 (f_X10_scrap Mw22 r21) fun r24 Mw25 => (if (r24 : Int32) = (-1 : Int32) then (bnd2 (f_X10_lot Mw25 12 0) fun r28 Mw29 => (if (r28 : Int32) = (-1 : Int32) then (bnd2 (f_X10_melt Mw29 (-1)) fun r32 Mw33 => (if (r32 : Int32) = (-1 : Int32) then (bnd2 (f_X10_set Mw33 5 51) fun r36 Mw37 => (if (r36 : Int32) = (-1 : Int32) then (bnd2 (f_X10_pour Mw37 0 0) fun r40 Mw41 => (if (r40 : Int32) = (-1 : Int32) then (bnd2 (f_X10_tune Mw41 r7 1) fun r44 Mw45 => (if (r44 : Int32) = (-1 : Int32) then (bnd2 (f_X10_tune Mw45 0 1001) fun r48 Mw49 => (if (r48 : Int32) = (-1 : Int32) then (bnd2 (f_X10_smash Mw49 r7) fun r52 Mw53 => (if (r52 : Int32) = (-1 : Int32) then (bnd2 (f_X10_bell Mw53 r7 0) fun r56 Mw57 => (if (r56 : Int32) = (-1 : Int32) then (bnd2 (f_X10_order Mw57 0 20001 0) fun r60 Mw61 => (if (r60 : Int32) = (-1 : Int32) then (bnd2 (f_X10_cancel Mw61 r10) fun r64 Mw65 => (if (r64 : Int32) = (-1 : Int32) then (bnd2 (f_X10_send Mw65 r7 0) fun r68 Mw69 => (if (r68 : Int32) = (-1 : Int32) then (bnd2 (f_X10_orderOf Mw69 r10 0) fun r72 Mw73 => (if (r72 : Int32) = (-1 : Int32) then (bnd2 (f_X10_tuneFor Mw73 (-1) 0) fun r76 Mw77 => (if (r76 : Int32) = (-1 : Int32) then (bnd2 (f_X10_pourFor Mw77 r10) fun r80 Mw81 => (if (r80 : Int32) = (-1 : Int32) then (bnd2 (f_X10_wagons Mw81 4096) fun r84 Mw85 => (if (r84 : Int32) = (-1 : Int32) then (bnd2 (f_X10_account Mw85 0 (-1)) fun r88 Mw89 => (if (r88 : Int32) = (-1 : Int32) then (bnd2 (f_X10_count Mw89 19) fun r92 Mw93 => (if (r92 : Int32) = (-1 : Int32) then (bnd2 (f_X10_frame Mw93 6) fun r96 Mw97 => (if (r96 : Int32) = (-1 : Int32) then (bnd2 (f_X10_fault Mw97 2) fun r100 Mw101 => (if (r100 : Int32) = (-1 : Int32) then (if (1 : Int32) = 0 then none else (bnd2 (f_X10_count Mw101 2) fun r105 Mw106 => (if (r105 : Int32) < (12 : Int32) then (bnd2 (f_X10_count Mw106 6) fun r109 Mw110 => (if (r109 : Int32) < (8 : Int32) then (if (1 : Int32) = 0 then none else (bnd2 (f_L_sum Mw110 ) fun r114 Mw115 => (if (lg_cmp (r114) (r1) : Int32) = 0 then (bnd2 (f_X10_count Mw115 8) fun r118 Mw119 => (if (r118 : Int32) = (r4 : Int32) then some (1, Mw119) else none)) else none))) else (bnd2 (f_X10_order Mw110 0 1 0) fun r122 Mw123 => (if (r122 : Int32) = (-3 : Int32) then (if (1 : Int32) = 0 then none else (bnd2 (f_L_sum Mw123 ) fun r127 Mw128 => (if (lg_cmp (r127) (r1) : Int32) = 0 then (bnd2 (f_X10_count Mw128 8) fun r131 Mw132 => (if (r131 : Int32) = (r4 : Int32) then some (1, Mw132) else none)) else none))) else none)))) else (bnd2 (f_X10_pour Mw106 0 1) fun r135 Mw136 => (if 0 ≤ (r135 : Int32) then none else (bnd2 (f_X10_count Mw136 6) fun r139 Mw140 => (if (r139 : Int32) < (8 : Int32) then (if (1 : Int32) = 0 then none else (bnd2 (f_L_sum Mw140 ) fun r144 Mw145 => (if (lg_cmp (r144) (r1) : Int32) = 0 then (bnd2 (f_X10_count Mw145 8) fun r148 Mw149 => (if (r148 : Int32) = (r4 : Int32) then some (1, Mw149) else none)) else none))) else (bnd2 (f_X10_order Mw140 0 1 0) fun r152 Mw153 => (if (r152 : Int32) = (-3 : Int32) then (if (1 : Int32) = 0 then none else (bnd2 (f_L_sum Mw153 ) fun r157 Mw158 => (if (lg_cmp (r157) (r1) : Int32) = 0 then (bnd2 (f_X10_count Mw158 8) fun r161 Mw162 => (if (r161 : Int32) = (r4 : Int32) then some (1, Mw162) else none)) else none))) else none))))))))) else none)) else none)) else none)) else none)) else none)) else none)) else none)) else none)) else none)) else none)) else none)) else none)) else none)) else none)) else none)) else none)) else none)) else none)) else none)) else none))) else none)) else none))))))
set_option maxHeartbeats 4000000 in
set_option maxRecDepth 100000 in
theorem c_L_refused (l : Launch) (g : GD) (M : MM)  (r : Int32) (M2 : MM) (h : f_L_refused M  = some (r, M2)) : Met l yL_refused (wm yL_refused cL_refused 7 (some .boolean)) (RM 6 152) (va_Pc [rf g (0)] (WDp g M)) (QU g (fun v w0 => v = .int r ∧ M2 = w0)) 0 0 (AU g) := by
  refine mkU (by decide +kernel) (Nat.le_of_ble_eq_true rfl) ?_
  intro p e s m below meth c C hr hlk hW hS ls hl
  have hl : lv_has ls 7 [(0, rf g (0))] := hl
  have hx := C.1
  have hb := C.2.1
  have hts := C.2.2.2.2.1
  unfold f_L_refused at h
  refine lv_aload_n hx hb dL_refused_0 rfl (lv_at hl 0 rfl) ?_
  obtain ⟨r1, Mw2, h3, h⟩ := bind2 h
  refine cBackL C.2.2.2.2.2.2.2.2 (runSU (As := [rf g (0)]) (rest := []) C hW hS (c_L_sum l g M  _ _ h3) kS_L_sum ml_L_32 rfl hl.1 rfl (Nat.le_of_ble_eq_true rfl) ⟨Nat.le_of_ble_eq_true rfl, Nat.le_of_ble_eq_true rfl⟩ ⟨Nat.zero_le _, Nat.zero_le _⟩ dL_refused_1) hS (fun v0 w0 H locs hp hW hS => ?_)
  obtain ⟨rfl, rfl⟩ := hp
  refine lv_lstore_n (lv' := [(1, .long (r1)), (0, rf g (0))]) hx hb dL_refused_4 rfl hl (by decide) rfl (fun ls hl => ?_)
  refine lv_aload_n hx hb dL_refused_5 rfl (lv_at hl 1 rfl) ?_
  refine lv_bipush (v := 8) hx hb dL_refused_6 (by decide) ?_
  obtain ⟨r4, Mw5, h6, h⟩ := bind2 h
  refine cBackC C.2.2.2.2.2.2.2.2 (runVU (As := [.int (8)]) (rest := []) C hW hS (c_X10_count l g Mw2 8 _ _ h6) kV_X10_count ml_L_13 (by decide) tm_BF rfl rfl rfl hl.1 rfl (Nat.le_of_ble_eq_true rfl) ⟨Nat.le_of_ble_eq_true rfl, Nat.le_of_ble_eq_true rfl⟩ ⟨Nat.zero_le _, Nat.zero_le _⟩ dL_refused_8) hS (fun v0 w0 H locs hp hW hS hq => ?_)
  obtain ⟨rfl, rfl⟩ := hp
  refine lv_istore_n (lv' := [(3, .int (r4)), (1, .long (r1)), (0, rf g (0))]) hx hb dL_refused_11 rfl hl (by decide) rfl (fun ls hl => ?_)
  refine lv_aload_n hx hb dL_refused_12 rfl (lv_at hl 2 rfl) ?_
  refine lv_iconst (v := 1) hx hb dL_refused_13 (by decide) ?_
  obtain ⟨r7, Mw8, h9, h⟩ := bind2 h
  refine cBackC C.2.2.2.2.2.2.2.2 (runVU (As := [.int (1)]) (rest := []) C hW hS (c_X10_count l g Mw5 1 _ _ h9) kV_X10_count ml_L_13 (by decide) tm_BF rfl rfl rfl hl.1 rfl (Nat.le_of_ble_eq_true rfl) ⟨Nat.le_of_ble_eq_true rfl, Nat.le_of_ble_eq_true rfl⟩ ⟨Nat.zero_le _, Nat.zero_le _⟩ dL_refused_14) hS (fun v0 w0 H locs hp hW hS hq => ?_)
  obtain ⟨rfl, rfl⟩ := hp
  refine lv_istore (lv' := [(4, .int (r7)), (3, .int (r4)), (1, .long (r1)), (0, rf g (0))]) hx hb dL_refused_17 hl (by decide) rfl (fun ls hl => ?_)
  refine lv_aload_n hx hb dL_refused_19 rfl (lv_at hl 3 rfl) ?_
  refine lv_iconst (v := 5) hx hb dL_refused_20 (by decide) ?_
  obtain ⟨r10, Mw11, h12, h⟩ := bind2 h
  refine cBackC C.2.2.2.2.2.2.2.2 (runVU (As := [.int (5)]) (rest := []) C hW hS (c_X10_count l g Mw8 5 _ _ h12) kV_X10_count ml_L_13 (by decide) tm_BF rfl rfl rfl hl.1 rfl (Nat.le_of_ble_eq_true rfl) ⟨Nat.le_of_ble_eq_true rfl, Nat.le_of_ble_eq_true rfl⟩ ⟨Nat.zero_le _, Nat.zero_le _⟩ dL_refused_21) hS (fun v0 w0 H locs hp hW hS hq => ?_)
  obtain ⟨rfl, rfl⟩ := hp
  refine lv_istore (lv' := [(5, .int (r10)), (4, .int (r7)), (3, .int (r4)), (1, .long (r1)), (0, rf g (0))]) hx hb dL_refused_24 hl (by decide) rfl (fun ls hl => ?_)
  refine lv_aload_n hx hb dL_refused_26 rfl (lv_at hl 4 rfl) ?_
  refine lv_iconst (v := 0) hx hb dL_refused_27 (by decide) ?_
  refine lv_iconst (v := 0) hx hb dL_refused_28 (by decide) ?_
  obtain ⟨r13, Mw14, h15, h⟩ := bind2 h
  refine cBackC C.2.2.2.2.2.2.2.2 (runVU (As := [.int (0), .int (0)]) (rest := []) C hW hS (c_X10_buy l g Mw11 0 0 _ _ h15) kV_X10_buy ml_L_38 (by decide) tm_BF rfl rfl rfl hl.1 rfl (Nat.le_of_ble_eq_true rfl) ⟨Nat.le_of_ble_eq_true rfl, Nat.le_of_ble_eq_true rfl⟩ ⟨Nat.zero_le _, Nat.zero_le _⟩ dL_refused_29) hS (fun v0 w0 H locs hp hW hS hq => ?_)
  obtain ⟨rfl, rfl⟩ := hp
  refine lv_iconst (v := -1) hx hb dL_refused_32 (by decide) ?_
  refine lv_icmp_ne (tgt := 263) hx hb dL_refused_33 (by decide) (fun c16 => ?_) (fun c16 => ?_)
  · rw [if_neg c16] at h
    refine lv_iconst (v := 0) hx hb dL_refused_263 (by decide) ?_
    cases h
  · rw [if_pos c16] at h
    refine lv_aload_n hx hb dL_refused_36 rfl (lv_at hl 4 rfl) ?_
    refine lv_iconst (v := 2) hx hb dL_refused_37 (by decide) ?_
    refine lv_iconst (v := 1) hx hb dL_refused_38 (by decide) ?_
    obtain ⟨r17, Mw18, h19, h⟩ := bind2 h
    refine cBackC C.2.2.2.2.2.2.2.2 (runVU (As := [.int (2), .int (1)]) (rest := []) C hW hS (c_X10_charge l g Mw14 2 1 _ _ h19) kV_X10_charge ml_L_41 (by decide) tm_BF rfl rfl rfl hl.1 rfl (Nat.le_of_ble_eq_true rfl) ⟨Nat.le_of_ble_eq_true rfl, Nat.le_of_ble_eq_true rfl⟩ ⟨Nat.zero_le _, Nat.zero_le _⟩ dL_refused_39) hS (fun v0 w0 H locs hp hW hS hq => ?_)
    obtain ⟨rfl, rfl⟩ := hp
    refine lv_iconst (v := -1) hx hb dL_refused_42 (by decide) ?_
    refine lv_icmp_ne (tgt := 263) hx hb dL_refused_43 (by decide) (fun c20 => ?_) (fun c20 => ?_)
    · rw [if_neg c20] at h
      refine lv_iconst (v := 0) hx hb dL_refused_263 (by decide) ?_
      cases h
    · rw [if_pos c20] at h
      refine lv_aload_n hx hb dL_refused_46 rfl (lv_at hl 4 rfl) ?_
      refine lv_aload_n hx hb dL_refused_47 rfl (lv_at hl 4 rfl) ?_
      refine lv_iconst (v := 0) hx hb dL_refused_48 (by decide) ?_
      obtain ⟨r21, Mw22, h23, h⟩ := bind2 h
      refine cBackC C.2.2.2.2.2.2.2.2 (runVU (As := [.int (0)]) (rest := [rf g (0)]) C hW hS (c_X10_count l g Mw18 0 _ _ h23) kV_X10_count ml_L_13 (by decide) tm_BF rfl rfl rfl hl.1 rfl (Nat.le_of_ble_eq_true rfl) ⟨Nat.le_of_ble_eq_true rfl, Nat.le_of_ble_eq_true rfl⟩ ⟨Nat.zero_le _, Nat.zero_le _⟩ dL_refused_49) hS (fun v0 w0 H locs hp hW hS hq => ?_)
      obtain ⟨rfl, rfl⟩ := hp
      obtain ⟨r24, Mw25, h26, h⟩ := bind2 h
      refine cBackC C.2.2.2.2.2.2.2.2 (runVU (As := [.int (r21)]) (rest := []) C hW hS (c_X10_scrap l g Mw22 r21 _ _ h26) kV_X10_scrap ml_L_44 (by decide) tm_BF rfl rfl rfl hl.1 rfl (Nat.le_of_ble_eq_true rfl) ⟨Nat.le_of_ble_eq_true rfl, Nat.le_of_ble_eq_true rfl⟩ ⟨Nat.zero_le _, Nat.zero_le _⟩ dL_refused_52) hS (fun v0 w0 H locs hp hW hS hq => ?_)
      obtain ⟨rfl, rfl⟩ := hp
      refine lv_iconst (v := -1) hx hb dL_refused_55 (by decide) ?_
      refine lv_icmp_ne (tgt := 263) hx hb dL_refused_56 (by decide) (fun c27 => ?_) (fun c27 => ?_)
      · rw [if_neg c27] at h
        refine lv_iconst (v := 0) hx hb dL_refused_263 (by decide) ?_
        cases h
      · rw [if_pos c27] at h
        refine lv_aload_n hx hb dL_refused_59 rfl (lv_at hl 4 rfl) ?_
        refine lv_bipush (v := 12) hx hb dL_refused_60 (by decide) ?_
        refine lv_iconst (v := 0) hx hb dL_refused_62 (by decide) ?_
        obtain ⟨r28, Mw29, h30, h⟩ := bind2 h
        refine cBackC C.2.2.2.2.2.2.2.2 (runVU (As := [.int (12), .int (0)]) (rest := []) C hW hS (c_X10_lot l g Mw25 12 0 _ _ h30) kV_X10_lot ml_L_23 (by decide) tm_BF rfl rfl rfl hl.1 rfl (Nat.le_of_ble_eq_true rfl) ⟨Nat.le_of_ble_eq_true rfl, Nat.le_of_ble_eq_true rfl⟩ ⟨Nat.zero_le _, Nat.zero_le _⟩ dL_refused_63) hS (fun v0 w0 H locs hp hW hS hq => ?_)
        obtain ⟨rfl, rfl⟩ := hp
        refine lv_iconst (v := -1) hx hb dL_refused_66 (by decide) ?_
        refine lv_icmp_ne (tgt := 263) hx hb dL_refused_67 (by decide) (fun c31 => ?_) (fun c31 => ?_)
        · rw [if_neg c31] at h
          refine lv_iconst (v := 0) hx hb dL_refused_263 (by decide) ?_
          cases h
        · rw [if_pos c31] at h
          refine lv_aload_n hx hb dL_refused_70 rfl (lv_at hl 4 rfl) ?_
          refine lv_iconst (v := -1) hx hb dL_refused_71 (by decide) ?_
          obtain ⟨r32, Mw33, h34, h⟩ := bind2 h
          refine cBackC C.2.2.2.2.2.2.2.2 (runVU (As := [.int (-1)]) (rest := []) C hW hS (c_X10_melt l g Mw29 (-1) _ _ h34) kV_X10_melt ml_L_47 (by decide) tm_BF rfl rfl rfl hl.1 rfl (Nat.le_of_ble_eq_true rfl) ⟨Nat.le_of_ble_eq_true rfl, Nat.le_of_ble_eq_true rfl⟩ ⟨Nat.zero_le _, Nat.zero_le _⟩ dL_refused_72) hS (fun v0 w0 H locs hp hW hS hq => ?_)
          obtain ⟨rfl, rfl⟩ := hp
          refine lv_iconst (v := -1) hx hb dL_refused_75 (by decide) ?_
          refine lv_icmp_ne (tgt := 263) hx hb dL_refused_76 (by decide) (fun c35 => ?_) (fun c35 => ?_)
          · rw [if_neg c35] at h
            refine lv_iconst (v := 0) hx hb dL_refused_263 (by decide) ?_
            cases h
          · rw [if_pos c35] at h
            refine lv_aload_n hx hb dL_refused_79 rfl (lv_at hl 4 rfl) ?_
            refine lv_iconst (v := 5) hx hb dL_refused_80 (by decide) ?_
            refine lv_bipush (v := 51) hx hb dL_refused_81 (by decide) ?_
            obtain ⟨r36, Mw37, h38, h⟩ := bind2 h
            refine cBackC C.2.2.2.2.2.2.2.2 (runVU (As := [.int (5), .int (51)]) (rest := []) C hW hS (c_X10_set l g Mw33 5 51 _ _ h38) kV_X10_set ml_L_50 (by decide) tm_BF rfl rfl rfl hl.1 rfl (Nat.le_of_ble_eq_true rfl) ⟨Nat.le_of_ble_eq_true rfl, Nat.le_of_ble_eq_true rfl⟩ ⟨Nat.zero_le _, Nat.zero_le _⟩ dL_refused_83) hS (fun v0 w0 H locs hp hW hS hq => ?_)
            obtain ⟨rfl, rfl⟩ := hp
            refine lv_iconst (v := -1) hx hb dL_refused_86 (by decide) ?_
            refine lv_icmp_ne (tgt := 263) hx hb dL_refused_87 (by decide) (fun c39 => ?_) (fun c39 => ?_)
            · rw [if_neg c39] at h
              refine lv_iconst (v := 0) hx hb dL_refused_263 (by decide) ?_
              cases h
            · rw [if_pos c39] at h
              refine lv_aload_n hx hb dL_refused_90 rfl (lv_at hl 4 rfl) ?_
              refine lv_iconst (v := 0) hx hb dL_refused_91 (by decide) ?_
              refine lv_iconst (v := 0) hx hb dL_refused_92 (by decide) ?_
              obtain ⟨r40, Mw41, h42, h⟩ := bind2 h
              refine cBackC C.2.2.2.2.2.2.2.2 (runVU (As := [.int (0), .int (0)]) (rest := []) C hW hS (c_X10_pour l g Mw37 0 0 _ _ h42) kV_X10_pour ml_L_53 (by decide) tm_BF rfl rfl rfl hl.1 rfl (Nat.le_of_ble_eq_true rfl) ⟨Nat.le_of_ble_eq_true rfl, Nat.le_of_ble_eq_true rfl⟩ ⟨Nat.zero_le _, Nat.zero_le _⟩ dL_refused_93) hS (fun v0 w0 H locs hp hW hS hq => ?_)
              obtain ⟨rfl, rfl⟩ := hp
              refine lv_iconst (v := -1) hx hb dL_refused_96 (by decide) ?_
              refine lv_icmp_ne (tgt := 263) hx hb dL_refused_97 (by decide) (fun c43 => ?_) (fun c43 => ?_)
              · rw [if_neg c43] at h
                refine lv_iconst (v := 0) hx hb dL_refused_263 (by decide) ?_
                cases h
              · rw [if_pos c43] at h
                refine lv_aload_n hx hb dL_refused_100 rfl (lv_at hl 4 rfl) ?_
                refine lv_iload hx hb dL_refused_101 (lv_at hl 1 rfl) ?_
                refine lv_iconst (v := 1) hx hb dL_refused_103 (by decide) ?_
                obtain ⟨r44, Mw45, h46, h⟩ := bind2 h
                refine cBackC C.2.2.2.2.2.2.2.2 (runVU (As := [.int (r7), .int (1)]) (rest := []) C hW hS (c_X10_tune l g Mw41 r7 1 _ _ h46) kV_X10_tune ml_L_56 (by decide) tm_BF rfl rfl rfl hl.1 rfl (Nat.le_of_ble_eq_true rfl) ⟨Nat.le_of_ble_eq_true rfl, Nat.le_of_ble_eq_true rfl⟩ ⟨Nat.zero_le _, Nat.zero_le _⟩ dL_refused_104) hS (fun v0 w0 H locs hp hW hS hq => ?_)
                obtain ⟨rfl, rfl⟩ := hp
                refine lv_iconst (v := -1) hx hb dL_refused_107 (by decide) ?_
                refine lv_icmp_ne (tgt := 263) hx hb dL_refused_108 (by decide) (fun c47 => ?_) (fun c47 => ?_)
                · rw [if_neg c47] at h
                  refine lv_iconst (v := 0) hx hb dL_refused_263 (by decide) ?_
                  cases h
                · rw [if_pos c47] at h
                  refine lv_aload_n hx hb dL_refused_111 rfl (lv_at hl 4 rfl) ?_
                  refine lv_iconst (v := 0) hx hb dL_refused_112 (by decide) ?_
                  refine lv_sipush (v := 1001) hx hb dL_refused_113 (by decide) ?_
                  obtain ⟨r48, Mw49, h50, h⟩ := bind2 h
                  refine cBackC C.2.2.2.2.2.2.2.2 (runVU (As := [.int (0), .int (1001)]) (rest := []) C hW hS (c_X10_tune l g Mw45 0 1001 _ _ h50) kV_X10_tune ml_L_56 (by decide) tm_BF rfl rfl rfl hl.1 rfl (Nat.le_of_ble_eq_true rfl) ⟨Nat.le_of_ble_eq_true rfl, Nat.le_of_ble_eq_true rfl⟩ ⟨Nat.zero_le _, Nat.zero_le _⟩ dL_refused_116) hS (fun v0 w0 H locs hp hW hS hq => ?_)
                  obtain ⟨rfl, rfl⟩ := hp
                  refine lv_iconst (v := -1) hx hb dL_refused_119 (by decide) ?_
                  refine lv_icmp_ne (tgt := 263) hx hb dL_refused_120 (by decide) (fun c51 => ?_) (fun c51 => ?_)
                  · rw [if_neg c51] at h
                    refine lv_iconst (v := 0) hx hb dL_refused_263 (by decide) ?_
                    cases h
                  · rw [if_pos c51] at h
                    refine lv_aload_n hx hb dL_refused_123 rfl (lv_at hl 4 rfl) ?_
                    refine lv_iload hx hb dL_refused_124 (lv_at hl 1 rfl) ?_
                    obtain ⟨r52, Mw53, h54, h⟩ := bind2 h
                    refine cBackC C.2.2.2.2.2.2.2.2 (runVU (As := [.int (r7)]) (rest := []) C hW hS (c_X10_smash l g Mw49 r7 _ _ h54) kV_X10_smash ml_L_59 (by decide) tm_BF rfl rfl rfl hl.1 rfl (Nat.le_of_ble_eq_true rfl) ⟨Nat.le_of_ble_eq_true rfl, Nat.le_of_ble_eq_true rfl⟩ ⟨Nat.zero_le _, Nat.zero_le _⟩ dL_refused_126) hS (fun v0 w0 H locs hp hW hS hq => ?_)
                    obtain ⟨rfl, rfl⟩ := hp
                    refine lv_iconst (v := -1) hx hb dL_refused_129 (by decide) ?_
                    refine lv_icmp_ne (tgt := 263) hx hb dL_refused_130 (by decide) (fun c55 => ?_) (fun c55 => ?_)
                    · rw [if_neg c55] at h
                      refine lv_iconst (v := 0) hx hb dL_refused_263 (by decide) ?_
                      cases h
                    · rw [if_pos c55] at h
                      refine lv_aload_n hx hb dL_refused_133 rfl (lv_at hl 4 rfl) ?_
                      refine lv_iload hx hb dL_refused_134 (lv_at hl 1 rfl) ?_
                      refine lv_iconst (v := 0) hx hb dL_refused_136 (by decide) ?_
                      obtain ⟨r56, Mw57, h58, h⟩ := bind2 h
                      refine cBackC C.2.2.2.2.2.2.2.2 (runVU (As := [.int (r7), .int (0)]) (rest := []) C hW hS (c_X10_bell l g Mw53 r7 0 _ _ h58) kV_X10_bell ml_L_26 (by decide) tm_BF rfl rfl rfl hl.1 rfl (Nat.le_of_ble_eq_true rfl) ⟨Nat.le_of_ble_eq_true rfl, Nat.le_of_ble_eq_true rfl⟩ ⟨Nat.zero_le _, Nat.zero_le _⟩ dL_refused_137) hS (fun v0 w0 H locs hp hW hS hq => ?_)
                      obtain ⟨rfl, rfl⟩ := hp
                      refine lv_iconst (v := -1) hx hb dL_refused_140 (by decide) ?_
                      refine lv_icmp_ne (tgt := 263) hx hb dL_refused_141 (by decide) (fun c59 => ?_) (fun c59 => ?_)
                      · rw [if_neg c59] at h
                        refine lv_iconst (v := 0) hx hb dL_refused_263 (by decide) ?_
                        cases h
                      · rw [if_pos c59] at h
                        refine lv_aload_n hx hb dL_refused_144 rfl (lv_at hl 4 rfl) ?_
                        refine lv_iconst (v := 0) hx hb dL_refused_145 (by decide) ?_
                        refine lv_sipush (v := 20001) hx hb dL_refused_146 (by decide) ?_
                        refine lv_iconst (v := 0) hx hb dL_refused_149 (by decide) ?_
                        obtain ⟨r60, Mw61, h62, h⟩ := bind2 h
                        refine cBackC C.2.2.2.2.2.2.2.2 (runVU (As := [.int (0), .int (20001), .int (0)]) (rest := []) C hW hS (c_X10_order l g Mw57 0 20001 0 _ _ h62) kV_X10_order ml_L_62 (by decide) tm_BF rfl rfl rfl hl.1 rfl (Nat.le_of_ble_eq_true rfl) ⟨Nat.le_of_ble_eq_true rfl, Nat.le_of_ble_eq_true rfl⟩ ⟨Nat.zero_le _, Nat.zero_le _⟩ dL_refused_150) hS (fun v0 w0 H locs hp hW hS hq => ?_)
                        obtain ⟨rfl, rfl⟩ := hp
                        refine lv_iconst (v := -1) hx hb dL_refused_153 (by decide) ?_
                        refine lv_icmp_ne (tgt := 263) hx hb dL_refused_154 (by decide) (fun c63 => ?_) (fun c63 => ?_)
                        · rw [if_neg c63] at h
                          refine lv_iconst (v := 0) hx hb dL_refused_263 (by decide) ?_
                          cases h
                        · rw [if_pos c63] at h
                          refine lv_aload_n hx hb dL_refused_157 rfl (lv_at hl 4 rfl) ?_
                          refine lv_iload hx hb dL_refused_158 (lv_at hl 0 rfl) ?_
                          obtain ⟨r64, Mw65, h66, h⟩ := bind2 h
                          refine cBackC C.2.2.2.2.2.2.2.2 (runVU (As := [.int (r10)]) (rest := []) C hW hS (c_X10_cancel l g Mw61 r10 _ _ h66) kV_X10_cancel ml_L_66 (by decide) tm_BF rfl rfl rfl hl.1 rfl (Nat.le_of_ble_eq_true rfl) ⟨Nat.le_of_ble_eq_true rfl, Nat.le_of_ble_eq_true rfl⟩ ⟨Nat.zero_le _, Nat.zero_le _⟩ dL_refused_160) hS (fun v0 w0 H locs hp hW hS hq => ?_)
                          obtain ⟨rfl, rfl⟩ := hp
                          refine lv_iconst (v := -1) hx hb dL_refused_163 (by decide) ?_
                          refine lv_icmp_ne (tgt := 263) hx hb dL_refused_164 (by decide) (fun c67 => ?_) (fun c67 => ?_)
                          · rw [if_neg c67] at h
                            refine lv_iconst (v := 0) hx hb dL_refused_263 (by decide) ?_
                            cases h
                          · rw [if_pos c67] at h
                            refine lv_aload_n hx hb dL_refused_167 rfl (lv_at hl 4 rfl) ?_
                            refine lv_iload hx hb dL_refused_168 (lv_at hl 1 rfl) ?_
                            refine lv_iconst (v := 0) hx hb dL_refused_170 (by decide) ?_
                            obtain ⟨r68, Mw69, h70, h⟩ := bind2 h
                            refine cBackC C.2.2.2.2.2.2.2.2 (runVU (As := [.int (r7), .int (0)]) (rest := []) C hW hS (c_X10_send l g Mw65 r7 0 _ _ h70) kV_X10_send ml_L_69 (by decide) tm_BF rfl rfl rfl hl.1 rfl (Nat.le_of_ble_eq_true rfl) ⟨Nat.le_of_ble_eq_true rfl, Nat.le_of_ble_eq_true rfl⟩ ⟨Nat.zero_le _, Nat.zero_le _⟩ dL_refused_171) hS (fun v0 w0 H locs hp hW hS hq => ?_)
                            obtain ⟨rfl, rfl⟩ := hp
                            refine lv_iconst (v := -1) hx hb dL_refused_174 (by decide) ?_
                            refine lv_icmp_ne (tgt := 263) hx hb dL_refused_175 (by decide) (fun c71 => ?_) (fun c71 => ?_)
                            · rw [if_neg c71] at h
                              refine lv_iconst (v := 0) hx hb dL_refused_263 (by decide) ?_
                              cases h
                            · rw [if_pos c71] at h
                              refine lv_aload_n hx hb dL_refused_178 rfl (lv_at hl 4 rfl) ?_
                              refine lv_iload hx hb dL_refused_179 (lv_at hl 0 rfl) ?_
                              refine lv_iconst (v := 0) hx hb dL_refused_181 (by decide) ?_
                              obtain ⟨r72, Mw73, h74, h⟩ := bind2 h
                              refine cBackC C.2.2.2.2.2.2.2.2 (runVU (As := [.int (r10), .int (0)]) (rest := []) C hW hS (c_X10_orderOf l g Mw69 r10 0 _ _ h74) kV_X10_orderOf ml_L_29 (by decide) tm_BF rfl rfl rfl hl.1 rfl (Nat.le_of_ble_eq_true rfl) ⟨Nat.le_of_ble_eq_true rfl, Nat.le_of_ble_eq_true rfl⟩ ⟨Nat.zero_le _, Nat.zero_le _⟩ dL_refused_182) hS (fun v0 w0 H locs hp hW hS hq => ?_)
                              obtain ⟨rfl, rfl⟩ := hp
                              refine lv_iconst (v := -1) hx hb dL_refused_185 (by decide) ?_
                              refine lv_icmp_ne (tgt := 263) hx hb dL_refused_186 (by decide) (fun c75 => ?_) (fun c75 => ?_)
                              · rw [if_neg c75] at h
                                refine lv_iconst (v := 0) hx hb dL_refused_263 (by decide) ?_
                                cases h
                              · rw [if_pos c75] at h
                                refine lv_aload_n hx hb dL_refused_189 rfl (lv_at hl 4 rfl) ?_
                                refine lv_iconst (v := -1) hx hb dL_refused_190 (by decide) ?_
                                refine lv_iconst (v := 0) hx hb dL_refused_191 (by decide) ?_
                                obtain ⟨r76, Mw77, h78, h⟩ := bind2 h
                                refine cBackC C.2.2.2.2.2.2.2.2 (runVU (As := [.int (-1), .int (0)]) (rest := []) C hW hS (c_X10_tuneFor l g Mw73 (-1) 0 _ _ h78) kV_X10_tuneFor ml_L_72 (by decide) tm_BF rfl rfl rfl hl.1 rfl (Nat.le_of_ble_eq_true rfl) ⟨Nat.le_of_ble_eq_true rfl, Nat.le_of_ble_eq_true rfl⟩ ⟨Nat.zero_le _, Nat.zero_le _⟩ dL_refused_192) hS (fun v0 w0 H locs hp hW hS hq => ?_)
                                obtain ⟨rfl, rfl⟩ := hp
                                refine lv_iconst (v := -1) hx hb dL_refused_195 (by decide) ?_
                                refine lv_icmp_ne (tgt := 263) hx hb dL_refused_196 (by decide) (fun c79 => ?_) (fun c79 => ?_)
                                · rw [if_neg c79] at h
                                  refine lv_iconst (v := 0) hx hb dL_refused_263 (by decide) ?_
                                  cases h
                                · rw [if_pos c79] at h
                                  refine lv_aload_n hx hb dL_refused_199 rfl (lv_at hl 4 rfl) ?_
                                  refine lv_iload hx hb dL_refused_200 (lv_at hl 0 rfl) ?_
                                  obtain ⟨r80, Mw81, h82, h⟩ := bind2 h
                                  refine cBackC C.2.2.2.2.2.2.2.2 (runVU (As := [.int (r10)]) (rest := []) C hW hS (c_X10_pourFor l g Mw77 r10 _ _ h82) kV_X10_pourFor ml_L_75 (by decide) tm_BF rfl rfl rfl hl.1 rfl (Nat.le_of_ble_eq_true rfl) ⟨Nat.le_of_ble_eq_true rfl, Nat.le_of_ble_eq_true rfl⟩ ⟨Nat.zero_le _, Nat.zero_le _⟩ dL_refused_202) hS (fun v0 w0 H locs hp hW hS hq => ?_)
                                  obtain ⟨rfl, rfl⟩ := hp
                                  refine lv_iconst (v := -1) hx hb dL_refused_205 (by decide) ?_
                                  refine lv_icmp_ne (tgt := 263) hx hb dL_refused_206 (by decide) (fun c83 => ?_) (fun c83 => ?_)
                                  · rw [if_neg c83] at h
                                    refine lv_iconst (v := 0) hx hb dL_refused_263 (by decide) ?_
                                    cases h
                                  · rw [if_pos c83] at h
                                    refine lv_aload_n hx hb dL_refused_209 rfl (lv_at hl 4 rfl) ?_
                                    refine lv_sipush (v := 4096) hx hb dL_refused_210 (by decide) ?_
                                    obtain ⟨r84, Mw85, h86, h⟩ := bind2 h
                                    refine cBackC C.2.2.2.2.2.2.2.2 (runVU (As := [.int (4096)]) (rest := []) C hW hS (c_X10_wagons l g Mw81 4096 _ _ h86) kV_X10_wagons ml_L_78 (by decide) tm_BF rfl rfl rfl hl.1 rfl (Nat.le_of_ble_eq_true rfl) ⟨Nat.le_of_ble_eq_true rfl, Nat.le_of_ble_eq_true rfl⟩ ⟨Nat.zero_le _, Nat.zero_le _⟩ dL_refused_213) hS (fun v0 w0 H locs hp hW hS hq => ?_)
                                    obtain ⟨rfl, rfl⟩ := hp
                                    refine lv_iconst (v := -1) hx hb dL_refused_216 (by decide) ?_
                                    refine lv_icmp_ne (tgt := 263) hx hb dL_refused_217 (by decide) (fun c87 => ?_) (fun c87 => ?_)
                                    · rw [if_neg c87] at h
                                      refine lv_iconst (v := 0) hx hb dL_refused_263 (by decide) ?_
                                      cases h
                                    · rw [if_pos c87] at h
                                      refine lv_aload_n hx hb dL_refused_220 rfl (lv_at hl 4 rfl) ?_
                                      refine lv_iconst (v := 0) hx hb dL_refused_221 (by decide) ?_
                                      refine lv_iconst (v := -1) hx hb dL_refused_222 (by decide) ?_
                                      obtain ⟨r88, Mw89, h90, h⟩ := bind2 h
                                      refine cBackC C.2.2.2.2.2.2.2.2 (runVU (As := [.int (0), .int (-1)]) (rest := []) C hW hS (c_X10_account l g Mw85 0 (-1) _ _ h90) kV_X10_account ml_L_19 (by decide) tm_BF rfl rfl rfl hl.1 rfl (Nat.le_of_ble_eq_true rfl) ⟨Nat.le_of_ble_eq_true rfl, Nat.le_of_ble_eq_true rfl⟩ ⟨Nat.zero_le _, Nat.zero_le _⟩ dL_refused_223) hS (fun v0 w0 H locs hp hW hS hq => ?_)
                                      obtain ⟨rfl, rfl⟩ := hp
                                      refine lv_iconst (v := -1) hx hb dL_refused_226 (by decide) ?_
                                      refine lv_icmp_ne (tgt := 263) hx hb dL_refused_227 (by decide) (fun c91 => ?_) (fun c91 => ?_)
                                      · rw [if_neg c91] at h
                                        refine lv_iconst (v := 0) hx hb dL_refused_263 (by decide) ?_
                                        cases h
                                      · rw [if_pos c91] at h
                                        refine lv_aload_n hx hb dL_refused_230 rfl (lv_at hl 4 rfl) ?_
                                        refine lv_bipush (v := 19) hx hb dL_refused_231 (by decide) ?_
                                        obtain ⟨r92, Mw93, h94, h⟩ := bind2 h
                                        refine cBackC C.2.2.2.2.2.2.2.2 (runVU (As := [.int (19)]) (rest := []) C hW hS (c_X10_count l g Mw89 19 _ _ h94) kV_X10_count ml_L_13 (by decide) tm_BF rfl rfl rfl hl.1 rfl (Nat.le_of_ble_eq_true rfl) ⟨Nat.le_of_ble_eq_true rfl, Nat.le_of_ble_eq_true rfl⟩ ⟨Nat.zero_le _, Nat.zero_le _⟩ dL_refused_233) hS (fun v0 w0 H locs hp hW hS hq => ?_)
                                        obtain ⟨rfl, rfl⟩ := hp
                                        refine lv_iconst (v := -1) hx hb dL_refused_236 (by decide) ?_
                                        refine lv_icmp_ne (tgt := 263) hx hb dL_refused_237 (by decide) (fun c95 => ?_) (fun c95 => ?_)
                                        · rw [if_neg c95] at h
                                          refine lv_iconst (v := 0) hx hb dL_refused_263 (by decide) ?_
                                          cases h
                                        · rw [if_pos c95] at h
                                          refine lv_aload_n hx hb dL_refused_240 rfl (lv_at hl 4 rfl) ?_
                                          refine lv_bipush (v := 6) hx hb dL_refused_241 (by decide) ?_
                                          obtain ⟨r96, Mw97, h98, h⟩ := bind2 h
                                          refine cBackC C.2.2.2.2.2.2.2.2 (runVU (As := [.int (6)]) (rest := []) C hW hS (c_X10_frame l g Mw93 6 _ _ h98) kV_X10_frame ml_L_81 (by decide) tm_BF rfl rfl rfl hl.1 rfl (Nat.le_of_ble_eq_true rfl) ⟨Nat.le_of_ble_eq_true rfl, Nat.le_of_ble_eq_true rfl⟩ ⟨Nat.zero_le _, Nat.zero_le _⟩ dL_refused_243) hS (fun v0 w0 H locs hp hW hS hq => ?_)
                                          obtain ⟨rfl, rfl⟩ := hp
                                          refine lv_iconst (v := -1) hx hb dL_refused_246 (by decide) ?_
                                          refine lv_icmp_ne (tgt := 263) hx hb dL_refused_247 (by decide) (fun c99 => ?_) (fun c99 => ?_)
                                          · rw [if_neg c99] at h
                                            refine lv_iconst (v := 0) hx hb dL_refused_263 (by decide) ?_
                                            cases h
                                          · rw [if_pos c99] at h
                                            refine lv_aload_n hx hb dL_refused_250 rfl (lv_at hl 4 rfl) ?_
                                            refine lv_iconst (v := 2) hx hb dL_refused_251 (by decide) ?_
                                            obtain ⟨r100, Mw101, h102, h⟩ := bind2 h
                                            refine cBackC C.2.2.2.2.2.2.2.2 (runVU (As := [.int (2)]) (rest := []) C hW hS (c_X10_fault l g Mw97 2 _ _ h102) kV_X10_fault ml_L_84 (by decide) tm_BF rfl rfl rfl hl.1 rfl (Nat.le_of_ble_eq_true rfl) ⟨Nat.le_of_ble_eq_true rfl, Nat.le_of_ble_eq_true rfl⟩ ⟨Nat.zero_le _, Nat.zero_le _⟩ dL_refused_252) hS (fun v0 w0 H locs hp hW hS hq => ?_)
                                            obtain ⟨rfl, rfl⟩ := hp
                                            refine lv_iconst (v := -1) hx hb dL_refused_255 (by decide) ?_
                                            refine lv_icmp_ne (tgt := 263) hx hb dL_refused_256 (by decide) (fun c103 => ?_) (fun c103 => ?_)
                                            · rw [if_neg c103] at h
                                              refine lv_iconst (v := 0) hx hb dL_refused_263 (by decide) ?_
                                              cases h
                                            · rw [if_pos c103] at h
                                              refine lv_iconst (v := 1) hx hb dL_refused_259 (by decide) ?_
                                              refine lv_goto (tgt := 264) hx hb dL_refused_260 (by decide) ?_
                                              refine lv_istore (lv' := [(6, .int (1)), (5, .int (r10)), (4, .int (r7)), (3, .int (r4)), (1, .long (r1)), (0, rf g (0))]) hx hb dL_refused_264 hl (by decide) rfl (fun ls hl => ?_)
                                              refine lv_iload hx hb dL_refused_266 (lv_at hl 0 rfl) ?_
                                              refine lv_if_eq (tgt := 317) hx hb dL_refused_268 (by decide) (fun c104 => ?_) (fun c104 => ?_)
                                              · rw [if_pos c104] at h
                                                cases h
                                              · rw [if_neg c104] at h
                                                refine lv_aload_n hx hb dL_refused_271 rfl (lv_at hl 5 rfl) ?_
                                                refine lv_iconst (v := 2) hx hb dL_refused_272 (by decide) ?_
                                                obtain ⟨r105, Mw106, h107, h⟩ := bind2 h
                                                refine cBackC C.2.2.2.2.2.2.2.2 (runVU (As := [.int (2)]) (rest := []) C hW hS (c_X10_count l g Mw101 2 _ _ h107) kV_X10_count ml_L_13 (by decide) tm_BF rfl rfl rfl hl.1 rfl (Nat.le_of_ble_eq_true rfl) ⟨Nat.le_of_ble_eq_true rfl, Nat.le_of_ble_eq_true rfl⟩ ⟨Nat.zero_le _, Nat.zero_le _⟩ dL_refused_273) hS (fun v0 w0 H locs hp hW hS hq => ?_)
                                                obtain ⟨rfl, rfl⟩ := hp
                                                refine lv_bipush (v := 12) hx hb dL_refused_276 (by decide) ?_
                                                refine lv_icmp_lt (tgt := 290) hx hb dL_refused_278 (by decide) (fun c108 => ?_) (fun c108 => ?_)
                                                · rw [if_pos c108] at h
                                                  refine lv_aload_n hx hb dL_refused_290 rfl (lv_at hl 5 rfl) ?_
                                                  refine lv_bipush (v := 6) hx hb dL_refused_291 (by decide) ?_
                                                  obtain ⟨r109, Mw110, h111, h⟩ := bind2 h
                                                  refine cBackC C.2.2.2.2.2.2.2.2 (runVU (As := [.int (6)]) (rest := []) C hW hS (c_X10_count l g Mw106 6 _ _ h111) kV_X10_count ml_L_13 (by decide) tm_BF rfl rfl rfl hl.1 rfl (Nat.le_of_ble_eq_true rfl) ⟨Nat.le_of_ble_eq_true rfl, Nat.le_of_ble_eq_true rfl⟩ ⟨Nat.zero_le _, Nat.zero_le _⟩ dL_refused_293) hS (fun v0 w0 H locs hp hW hS hq => ?_)
                                                  obtain ⟨rfl, rfl⟩ := hp
                                                  refine lv_bipush (v := 8) hx hb dL_refused_296 (by decide) ?_
                                                  refine lv_icmp_lt (tgt := 313) hx hb dL_refused_298 (by decide) (fun c112 => ?_) (fun c112 => ?_)
                                                  · rw [if_pos c112] at h
                                                    refine lv_iconst (v := 1) hx hb dL_refused_313 (by decide) ?_
                                                    refine lv_goto (tgt := 318) hx hb dL_refused_314 (by decide) ?_
                                                    refine lv_istore (lv' := [(6, .int (1)), (5, .int (r10)), (4, .int (r7)), (3, .int (r4)), (1, .long (r1)), (0, rf g (0))]) hx hb dL_refused_318 hl (by decide) rfl (fun ls hl => ?_)
                                                    refine lv_iload hx hb dL_refused_320 (lv_at hl 0 rfl) ?_
                                                    refine lv_if_eq (tgt := 348) hx hb dL_refused_322 (by decide) (fun c113 => ?_) (fun c113 => ?_)
                                                    · rw [if_pos c113] at h
                                                      cases h
                                                    · rw [if_neg c113] at h
                                                      refine lv_aload_n hx hb dL_refused_325 rfl (lv_at hl 5 rfl) ?_
                                                      obtain ⟨r114, Mw115, h116, h⟩ := bind2 h
                                                      refine cBackL C.2.2.2.2.2.2.2.2 (runSU (As := [rf g (0)]) (rest := []) C hW hS (c_L_sum l g Mw110  _ _ h116) kS_L_sum ml_L_32 rfl hl.1 rfl (Nat.le_of_ble_eq_true rfl) ⟨Nat.le_of_ble_eq_true rfl, Nat.le_of_ble_eq_true rfl⟩ ⟨Nat.zero_le _, Nat.zero_le _⟩ dL_refused_326) hS (fun v0 w0 H locs hp hW hS => ?_)
                                                      obtain ⟨rfl, rfl⟩ := hp
                                                      refine lv_lload_n hx hb dL_refused_329 rfl (lv_at hl 4 rfl) ?_
                                                      refine W.lcmp hx hb dL_refused_330 ?_
                                                      refine lv_if_ne (tgt := 348) hx hb dL_refused_331 (by decide) (fun c117 => ?_) (fun c117 => ?_)
                                                      · rw [if_neg c117] at h
                                                        refine lv_iconst (v := 0) hx hb dL_refused_348 (by decide) ?_
                                                        cases h
                                                      · rw [if_pos c117] at h
                                                        refine lv_aload_n hx hb dL_refused_334 rfl (lv_at hl 5 rfl) ?_
                                                        refine lv_bipush (v := 8) hx hb dL_refused_335 (by decide) ?_
                                                        obtain ⟨r118, Mw119, h120, h⟩ := bind2 h
                                                        refine cBackC C.2.2.2.2.2.2.2.2 (runVU (As := [.int (8)]) (rest := []) C hW hS (c_X10_count l g Mw115 8 _ _ h120) kV_X10_count ml_L_13 (by decide) tm_BF rfl rfl rfl hl.1 rfl (Nat.le_of_ble_eq_true rfl) ⟨Nat.le_of_ble_eq_true rfl, Nat.le_of_ble_eq_true rfl⟩ ⟨Nat.zero_le _, Nat.zero_le _⟩ dL_refused_337) hS (fun v0 w0 H locs hp hW hS hq => ?_)
                                                        obtain ⟨rfl, rfl⟩ := hp
                                                        refine lv_iload_n hx hb dL_refused_340 rfl (lv_at hl 3 rfl) ?_
                                                        refine lv_icmp_ne (tgt := 348) hx hb dL_refused_341 (by decide) (fun c121 => ?_) (fun c121 => ?_)
                                                        · rw [if_neg c121] at h
                                                          refine lv_iconst (v := 0) hx hb dL_refused_348 (by decide) ?_
                                                          cases h
                                                        · rw [if_pos c121] at h
                                                          refine lv_iconst (v := 1) hx hb dL_refused_344 (by decide) ?_
                                                          refine lv_goto (tgt := 349) hx hb dL_refused_345 (by decide) ?_
                                                          cases h
                                                          exact rZU C hr hlk dL_refused_349 hW hS rfl ⟨rfl, rfl⟩
                                                  · rw [if_neg c112] at h
                                                    refine lv_aload_n hx hb dL_refused_301 rfl (lv_at hl 5 rfl) ?_
                                                    refine lv_iconst (v := 0) hx hb dL_refused_302 (by decide) ?_
                                                    refine lv_iconst (v := 1) hx hb dL_refused_303 (by decide) ?_
                                                    refine lv_iconst (v := 0) hx hb dL_refused_304 (by decide) ?_
                                                    obtain ⟨r122, Mw123, h124, h⟩ := bind2 h
                                                    refine cBackC C.2.2.2.2.2.2.2.2 (runVU (As := [.int (0), .int (1), .int (0)]) (rest := []) C hW hS (c_X10_order l g Mw110 0 1 0 _ _ h124) kV_X10_order ml_L_62 (by decide) tm_BF rfl rfl rfl hl.1 rfl (Nat.le_of_ble_eq_true rfl) ⟨Nat.le_of_ble_eq_true rfl, Nat.le_of_ble_eq_true rfl⟩ ⟨Nat.zero_le _, Nat.zero_le _⟩ dL_refused_305) hS (fun v0 w0 H locs hp hW hS hq => ?_)
                                                    obtain ⟨rfl, rfl⟩ := hp
                                                    refine lv_bipush (v := -3) hx hb dL_refused_308 (by decide) ?_
                                                    refine lv_icmp_ne (tgt := 317) hx hb dL_refused_310 (by decide) (fun c125 => ?_) (fun c125 => ?_)
                                                    · rw [if_neg c125] at h
                                                      refine lv_iconst (v := 0) hx hb dL_refused_317 (by decide) ?_
                                                      cases h
                                                    · rw [if_pos c125] at h
                                                      refine lv_iconst (v := 1) hx hb dL_refused_313 (by decide) ?_
                                                      refine lv_goto (tgt := 318) hx hb dL_refused_314 (by decide) ?_
                                                      refine lv_istore (lv' := [(6, .int (1)), (5, .int (r10)), (4, .int (r7)), (3, .int (r4)), (1, .long (r1)), (0, rf g (0))]) hx hb dL_refused_318 hl (by decide) rfl (fun ls hl => ?_)
                                                      refine lv_iload hx hb dL_refused_320 (lv_at hl 0 rfl) ?_
                                                      refine lv_if_eq (tgt := 348) hx hb dL_refused_322 (by decide) (fun c126 => ?_) (fun c126 => ?_)
                                                      · rw [if_pos c126] at h
                                                        cases h
                                                      · rw [if_neg c126] at h
                                                        refine lv_aload_n hx hb dL_refused_325 rfl (lv_at hl 5 rfl) ?_
                                                        obtain ⟨r127, Mw128, h129, h⟩ := bind2 h
                                                        refine cBackL C.2.2.2.2.2.2.2.2 (runSU (As := [rf g (0)]) (rest := []) C hW hS (c_L_sum l g Mw123  _ _ h129) kS_L_sum ml_L_32 rfl hl.1 rfl (Nat.le_of_ble_eq_true rfl) ⟨Nat.le_of_ble_eq_true rfl, Nat.le_of_ble_eq_true rfl⟩ ⟨Nat.zero_le _, Nat.zero_le _⟩ dL_refused_326) hS (fun v0 w0 H locs hp hW hS => ?_)
                                                        obtain ⟨rfl, rfl⟩ := hp
                                                        refine lv_lload_n hx hb dL_refused_329 rfl (lv_at hl 4 rfl) ?_
                                                        refine W.lcmp hx hb dL_refused_330 ?_
                                                        refine lv_if_ne (tgt := 348) hx hb dL_refused_331 (by decide) (fun c130 => ?_) (fun c130 => ?_)
                                                        · rw [if_neg c130] at h
                                                          refine lv_iconst (v := 0) hx hb dL_refused_348 (by decide) ?_
                                                          cases h
                                                        · rw [if_pos c130] at h
                                                          refine lv_aload_n hx hb dL_refused_334 rfl (lv_at hl 5 rfl) ?_
                                                          refine lv_bipush (v := 8) hx hb dL_refused_335 (by decide) ?_
                                                          obtain ⟨r131, Mw132, h133, h⟩ := bind2 h
                                                          refine cBackC C.2.2.2.2.2.2.2.2 (runVU (As := [.int (8)]) (rest := []) C hW hS (c_X10_count l g Mw128 8 _ _ h133) kV_X10_count ml_L_13 (by decide) tm_BF rfl rfl rfl hl.1 rfl (Nat.le_of_ble_eq_true rfl) ⟨Nat.le_of_ble_eq_true rfl, Nat.le_of_ble_eq_true rfl⟩ ⟨Nat.zero_le _, Nat.zero_le _⟩ dL_refused_337) hS (fun v0 w0 H locs hp hW hS hq => ?_)
                                                          obtain ⟨rfl, rfl⟩ := hp
                                                          refine lv_iload_n hx hb dL_refused_340 rfl (lv_at hl 3 rfl) ?_
                                                          refine lv_icmp_ne (tgt := 348) hx hb dL_refused_341 (by decide) (fun c134 => ?_) (fun c134 => ?_)
                                                          · rw [if_neg c134] at h
                                                            refine lv_iconst (v := 0) hx hb dL_refused_348 (by decide) ?_
                                                            cases h
                                                          · rw [if_pos c134] at h
                                                            refine lv_iconst (v := 1) hx hb dL_refused_344 (by decide) ?_
                                                            refine lv_goto (tgt := 349) hx hb dL_refused_345 (by decide) ?_
                                                            cases h
                                                            exact rZU C hr hlk dL_refused_349 hW hS rfl ⟨rfl, rfl⟩
                                                · rw [if_neg c108] at h
                                                  refine lv_aload_n hx hb dL_refused_281 rfl (lv_at hl 5 rfl) ?_
                                                  refine lv_iconst (v := 0) hx hb dL_refused_282 (by decide) ?_
                                                  refine lv_iconst (v := 1) hx hb dL_refused_283 (by decide) ?_
                                                  obtain ⟨r135, Mw136, h137, h⟩ := bind2 h
                                                  refine cBackC C.2.2.2.2.2.2.2.2 (runVU (As := [.int (0), .int (1)]) (rest := []) C hW hS (c_X10_pour l g Mw106 0 1 _ _ h137) kV_X10_pour ml_L_53 (by decide) tm_BF rfl rfl rfl hl.1 rfl (Nat.le_of_ble_eq_true rfl) ⟨Nat.le_of_ble_eq_true rfl, Nat.le_of_ble_eq_true rfl⟩ ⟨Nat.zero_le _, Nat.zero_le _⟩ dL_refused_284) hS (fun v0 w0 H locs hp hW hS hq => ?_)
                                                  obtain ⟨rfl, rfl⟩ := hp
                                                  refine lv_if_ge (tgt := 317) hx hb dL_refused_287 (by decide) (fun c138 => ?_) (fun c138 => ?_)
                                                  · rw [if_pos c138] at h
                                                    refine lv_iconst (v := 0) hx hb dL_refused_317 (by decide) ?_
                                                    cases h
                                                  · rw [if_neg c138] at h
                                                    refine lv_aload_n hx hb dL_refused_290 rfl (lv_at hl 5 rfl) ?_
                                                    refine lv_bipush (v := 6) hx hb dL_refused_291 (by decide) ?_
                                                    obtain ⟨r139, Mw140, h141, h⟩ := bind2 h
                                                    refine cBackC C.2.2.2.2.2.2.2.2 (runVU (As := [.int (6)]) (rest := []) C hW hS (c_X10_count l g Mw136 6 _ _ h141) kV_X10_count ml_L_13 (by decide) tm_BF rfl rfl rfl hl.1 rfl (Nat.le_of_ble_eq_true rfl) ⟨Nat.le_of_ble_eq_true rfl, Nat.le_of_ble_eq_true rfl⟩ ⟨Nat.zero_le _, Nat.zero_le _⟩ dL_refused_293) hS (fun v0 w0 H locs hp hW hS hq => ?_)
                                                    obtain ⟨rfl, rfl⟩ := hp
                                                    refine lv_bipush (v := 8) hx hb dL_refused_296 (by decide) ?_
                                                    refine lv_icmp_lt (tgt := 313) hx hb dL_refused_298 (by decide) (fun c142 => ?_) (fun c142 => ?_)
                                                    · rw [if_pos c142] at h
                                                      refine lv_iconst (v := 1) hx hb dL_refused_313 (by decide) ?_
                                                      refine lv_goto (tgt := 318) hx hb dL_refused_314 (by decide) ?_
                                                      refine lv_istore (lv' := [(6, .int (1)), (5, .int (r10)), (4, .int (r7)), (3, .int (r4)), (1, .long (r1)), (0, rf g (0))]) hx hb dL_refused_318 hl (by decide) rfl (fun ls hl => ?_)
                                                      refine lv_iload hx hb dL_refused_320 (lv_at hl 0 rfl) ?_
                                                      refine lv_if_eq (tgt := 348) hx hb dL_refused_322 (by decide) (fun c143 => ?_) (fun c143 => ?_)
                                                      · rw [if_pos c143] at h
                                                        cases h
                                                      · rw [if_neg c143] at h
                                                        refine lv_aload_n hx hb dL_refused_325 rfl (lv_at hl 5 rfl) ?_
                                                        obtain ⟨r144, Mw145, h146, h⟩ := bind2 h
                                                        refine cBackL C.2.2.2.2.2.2.2.2 (runSU (As := [rf g (0)]) (rest := []) C hW hS (c_L_sum l g Mw140  _ _ h146) kS_L_sum ml_L_32 rfl hl.1 rfl (Nat.le_of_ble_eq_true rfl) ⟨Nat.le_of_ble_eq_true rfl, Nat.le_of_ble_eq_true rfl⟩ ⟨Nat.zero_le _, Nat.zero_le _⟩ dL_refused_326) hS (fun v0 w0 H locs hp hW hS => ?_)
                                                        obtain ⟨rfl, rfl⟩ := hp
                                                        refine lv_lload_n hx hb dL_refused_329 rfl (lv_at hl 4 rfl) ?_
                                                        refine W.lcmp hx hb dL_refused_330 ?_
                                                        refine lv_if_ne (tgt := 348) hx hb dL_refused_331 (by decide) (fun c147 => ?_) (fun c147 => ?_)
                                                        · rw [if_neg c147] at h
                                                          refine lv_iconst (v := 0) hx hb dL_refused_348 (by decide) ?_
                                                          cases h
                                                        · rw [if_pos c147] at h
                                                          refine lv_aload_n hx hb dL_refused_334 rfl (lv_at hl 5 rfl) ?_
                                                          refine lv_bipush (v := 8) hx hb dL_refused_335 (by decide) ?_
                                                          obtain ⟨r148, Mw149, h150, h⟩ := bind2 h
                                                          refine cBackC C.2.2.2.2.2.2.2.2 (runVU (As := [.int (8)]) (rest := []) C hW hS (c_X10_count l g Mw145 8 _ _ h150) kV_X10_count ml_L_13 (by decide) tm_BF rfl rfl rfl hl.1 rfl (Nat.le_of_ble_eq_true rfl) ⟨Nat.le_of_ble_eq_true rfl, Nat.le_of_ble_eq_true rfl⟩ ⟨Nat.zero_le _, Nat.zero_le _⟩ dL_refused_337) hS (fun v0 w0 H locs hp hW hS hq => ?_)
                                                          obtain ⟨rfl, rfl⟩ := hp
                                                          refine lv_iload_n hx hb dL_refused_340 rfl (lv_at hl 3 rfl) ?_
                                                          refine lv_icmp_ne (tgt := 348) hx hb dL_refused_341 (by decide) (fun c151 => ?_) (fun c151 => ?_)
                                                          · rw [if_neg c151] at h
                                                            refine lv_iconst (v := 0) hx hb dL_refused_348 (by decide) ?_
                                                            cases h
                                                          · rw [if_pos c151] at h
                                                            refine lv_iconst (v := 1) hx hb dL_refused_344 (by decide) ?_
                                                            refine lv_goto (tgt := 349) hx hb dL_refused_345 (by decide) ?_
                                                            cases h
                                                            exact rZU C hr hlk dL_refused_349 hW hS rfl ⟨rfl, rfl⟩
                                                    · rw [if_neg c142] at h
                                                      refine lv_aload_n hx hb dL_refused_301 rfl (lv_at hl 5 rfl) ?_
                                                      refine lv_iconst (v := 0) hx hb dL_refused_302 (by decide) ?_
                                                      refine lv_iconst (v := 1) hx hb dL_refused_303 (by decide) ?_
                                                      refine lv_iconst (v := 0) hx hb dL_refused_304 (by decide) ?_
                                                      obtain ⟨r152, Mw153, h154, h⟩ := bind2 h
                                                      refine cBackC C.2.2.2.2.2.2.2.2 (runVU (As := [.int (0), .int (1), .int (0)]) (rest := []) C hW hS (c_X10_order l g Mw140 0 1 0 _ _ h154) kV_X10_order ml_L_62 (by decide) tm_BF rfl rfl rfl hl.1 rfl (Nat.le_of_ble_eq_true rfl) ⟨Nat.le_of_ble_eq_true rfl, Nat.le_of_ble_eq_true rfl⟩ ⟨Nat.zero_le _, Nat.zero_le _⟩ dL_refused_305) hS (fun v0 w0 H locs hp hW hS hq => ?_)
                                                      obtain ⟨rfl, rfl⟩ := hp
                                                      refine lv_bipush (v := -3) hx hb dL_refused_308 (by decide) ?_
                                                      refine lv_icmp_ne (tgt := 317) hx hb dL_refused_310 (by decide) (fun c155 => ?_) (fun c155 => ?_)
                                                      · rw [if_neg c155] at h
                                                        refine lv_iconst (v := 0) hx hb dL_refused_317 (by decide) ?_
                                                        cases h
                                                      · rw [if_pos c155] at h
                                                        refine lv_iconst (v := 1) hx hb dL_refused_313 (by decide) ?_
                                                        refine lv_goto (tgt := 318) hx hb dL_refused_314 (by decide) ?_
                                                        refine lv_istore (lv' := [(6, .int (1)), (5, .int (r10)), (4, .int (r7)), (3, .int (r4)), (1, .long (r1)), (0, rf g (0))]) hx hb dL_refused_318 hl (by decide) rfl (fun ls hl => ?_)
                                                        refine lv_iload hx hb dL_refused_320 (lv_at hl 0 rfl) ?_
                                                        refine lv_if_eq (tgt := 348) hx hb dL_refused_322 (by decide) (fun c156 => ?_) (fun c156 => ?_)
                                                        · rw [if_pos c156] at h
                                                          cases h
                                                        · rw [if_neg c156] at h
                                                          refine lv_aload_n hx hb dL_refused_325 rfl (lv_at hl 5 rfl) ?_
                                                          obtain ⟨r157, Mw158, h159, h⟩ := bind2 h
                                                          refine cBackL C.2.2.2.2.2.2.2.2 (runSU (As := [rf g (0)]) (rest := []) C hW hS (c_L_sum l g Mw153  _ _ h159) kS_L_sum ml_L_32 rfl hl.1 rfl (Nat.le_of_ble_eq_true rfl) ⟨Nat.le_of_ble_eq_true rfl, Nat.le_of_ble_eq_true rfl⟩ ⟨Nat.zero_le _, Nat.zero_le _⟩ dL_refused_326) hS (fun v0 w0 H locs hp hW hS => ?_)
                                                          obtain ⟨rfl, rfl⟩ := hp
                                                          refine lv_lload_n hx hb dL_refused_329 rfl (lv_at hl 4 rfl) ?_
                                                          refine W.lcmp hx hb dL_refused_330 ?_
                                                          refine lv_if_ne (tgt := 348) hx hb dL_refused_331 (by decide) (fun c160 => ?_) (fun c160 => ?_)
                                                          · rw [if_neg c160] at h
                                                            refine lv_iconst (v := 0) hx hb dL_refused_348 (by decide) ?_
                                                            cases h
                                                          · rw [if_pos c160] at h
                                                            refine lv_aload_n hx hb dL_refused_334 rfl (lv_at hl 5 rfl) ?_
                                                            refine lv_bipush (v := 8) hx hb dL_refused_335 (by decide) ?_
                                                            obtain ⟨r161, Mw162, h163, h⟩ := bind2 h
                                                            refine cBackC C.2.2.2.2.2.2.2.2 (runVU (As := [.int (8)]) (rest := []) C hW hS (c_X10_count l g Mw158 8 _ _ h163) kV_X10_count ml_L_13 (by decide) tm_BF rfl rfl rfl hl.1 rfl (Nat.le_of_ble_eq_true rfl) ⟨Nat.le_of_ble_eq_true rfl, Nat.le_of_ble_eq_true rfl⟩ ⟨Nat.zero_le _, Nat.zero_le _⟩ dL_refused_337) hS (fun v0 w0 H locs hp hW hS hq => ?_)
                                                            obtain ⟨rfl, rfl⟩ := hp
                                                            refine lv_iload_n hx hb dL_refused_340 rfl (lv_at hl 3 rfl) ?_
                                                            refine lv_icmp_ne (tgt := 348) hx hb dL_refused_341 (by decide) (fun c164 => ?_) (fun c164 => ?_)
                                                            · rw [if_neg c164] at h
                                                              refine lv_iconst (v := 0) hx hb dL_refused_348 (by decide) ?_
                                                              cases h
                                                            · rw [if_pos c164] at h
                                                              refine lv_iconst (v := 1) hx hb dL_refused_344 (by decide) ?_
                                                              refine lv_goto (tgt := 349) hx hb dL_refused_345 (by decide) ?_
                                                              cases h
                                                              exact rZU C hr hlk dL_refused_349 hW hS rfl ⟨rfl, rfl⟩
def lp_L_areBells_12 (fu : Nat) (M : MM) (u : Int32) (v : Int32) (y : Int32) (z : Int32) : Option (Int32 × MM) := match fu with
  | 0 => none
  | n + 1 => (bnd2 (f_X10_count M 1) fun r1001 Mw1002 => (if (r1001 : Int32) ≤ (z : Int32) then (if (1 : Int32) = 0 then none else (bnd2 (f_X10_count Mw1002 2) fun r1006 Mw1007 => (if (r1006 : Int32) = (u : Int32) then (bnd2 (f_X10_count Mw1007 3) fun r1010 Mw1011 => (if (r1010 : Int32) = (v : Int32) then (bnd2 (f_X10_count Mw1011 4) fun r1014 Mw1015 => (if (r1014 : Int32) = (y : Int32) then (if (12 : Int32) < (u : Int32) then none else (bnd2 (f_X10_count Mw1015 7) fun r1019 Mw1020 => (if (r1019 : Int32) = (y : Int32) then some (1, Mw1020) else none))) else none)) else none)) else none))) else (if (1 : Int32) = 0 then none else (bnd2 (f_X10_bell Mw1002 z 8) fun r1024 Mw1025 => (letJ ((u) + (if (2 : Int32) ≤ (r1024 : Int32) then (0 : Int32) else (1 : Int32))) fun x1027 => (letJ ((v) + (if (r1024 : Int32) = (1 : Int32) then (1 : Int32) else (0 : Int32))) fun x1028 => (letJ ((y) + (if (r1024 : Int32) = (2 : Int32) then (1 : Int32) else (0 : Int32))) fun x1029 => (bnd2 (f_X10_bell Mw1025 z 2) fun r1030 Mw1031 => (if (r1024 : Int32) < 0 then none else (if (4 : Int32) ≤ (r1024 : Int32) then none else (bnd2 (f_X10_bell Mw1031 z 5) fun r1035 Mw1036 => (if (r1035 : Int32) < (1 : Int32) then none else (bnd2 (f_X10_bell Mw1036 z 7) fun r1039 Mw1040 => (if (r1039 : Int32) < 0 then none else (bnd2 (f_X10_bell Mw1040 z 7) fun r1043 Mw1044 => (bnd2 (f_X10_bell Mw1044 z 6) fun r1046 Mw1047 => (if (r1046 : Int32) ≤ (r1043 : Int32) then none else (bnd2 (f_X10_bell Mw1047 z 9) fun r1050 Mw1051 => (if (if (r1024 : Int32) = (2 : Int32) then (1 : Int32) else (0 : Int32) : Int32) = (if (r1050 : Int32) = (-4 : Int32) then (0 : Int32) else (1 : Int32) : Int32) then (if (r1024 : Int32) = (3 : Int32) then (if (1 : Int32) = 0 then none else (if (r1030 : Int32) = (-4 : Int32) then (bnd2 (f_X10_bell Mw1051 z 3) fun r1124 Mw1125 => (if (r1124 : Int32) = (-4 : Int32) then (if (r1024 : Int32) = (2 : Int32) then (bnd2 (f_X10_bell Mw1125 z 9) fun r1129 Mw1130 => (if (1 : Int32) = 0 then none else (bnd2 (f_X10_orderOf Mw1130 r1129 3) fun r1133 Mw1134 => (if (r1133 : Int32) = (1 : Int32) then (bnd2 (f_X10_orderOf Mw1134 r1129 0) fun r1137 Mw1138 => (bnd2 (f_X10_bell Mw1138 z 4) fun r1140 Mw1141 => (if (r1137 : Int32) = (r1140 : Int32) then (bnd2 (f_X10_bell Mw1141 z 5) fun r1144 Mw1145 => (bnd2 (f_X10_orderOf Mw1145 r1129 1) fun r1147 Mw1148 => (bnd2 (f_X10_orderOf Mw1148 r1129 2) fun r1150 Mw1151 => (if (r1150 : Int32) < ((r1144) - (r1147) : Int32) then none else (bnd2 (f_X10_orderOf Mw1151 r1129 1) fun r1154 Mw1155 => (bnd2 (f_X10_bell Mw1155 z 5) fun r1157 Mw1158 => (bnd2 (f_X10_orderOf Mw1158 r1129 2) fun r1160 Mw1161 => (if (r1160 : Int32) < ((r1154) - (r1157) : Int32) then none else (lp_L_areBells_12 n Mw1161 x1027 x1028 x1029 (z + 1)))))))))) else none))) else none)))) else (lp_L_areBells_12 n Mw1125 x1027 x1028 x1029 (z + 1))) else none)) else none)) else (if (1 : Int32) = 0 then none else (bnd2 (f_X10_bell Mw1051 z 7) fun r1056 Mw1057 => (bnd2 (f_X10_bell Mw1057 z 6) fun r1059 Mw1060 => (if ((r1030) + (r1056) : Int32) = (r1059 : Int32) then (bnd2 (f_X10_bell Mw1060 z 0) fun r1063 Mw1064 => (if (r1063 : Int32) < 0 then none else (bnd2 (f_X10_bell Mw1064 z 1) fun r1067 Mw1068 => (if (r1067 : Int32) < 0 then none else (bnd2 (f_X10_bell Mw1068 z 0) fun r1071 Mw1072 => (bnd2 (f_X10_bell Mw1072 z 1) fun r1074 Mw1075 => (if ((r1071) + (r1074) : Int32) = (r1030 : Int32) then (bnd2 (f_X10_bell Mw1075 z 3) fun r1078 Mw1079 => (bnd2 (f_X10_bell Mw1079 z 1) fun r1081 Mw1082 => (if (Int32.toInt64 (r1030) : Int64) = 0 then none else (if (r1078 : Int32) = (Int64.toInt32 (((1000) * (Int32.toInt64 (r1081))) / (Int32.toInt64 (r1030))) : Int32) then (if (r1024 : Int32) = (2 : Int32) then (bnd2 (f_X10_bell Mw1082 z 9) fun r1087 Mw1088 => (if (1 : Int32) = 0 then none else (bnd2 (f_X10_orderOf Mw1088 r1087 3) fun r1091 Mw1092 => (if (r1091 : Int32) = (1 : Int32) then (bnd2 (f_X10_orderOf Mw1092 r1087 0) fun r1095 Mw1096 => (bnd2 (f_X10_bell Mw1096 z 4) fun r1098 Mw1099 => (if (r1095 : Int32) = (r1098 : Int32) then (bnd2 (f_X10_bell Mw1099 z 5) fun r1102 Mw1103 => (bnd2 (f_X10_orderOf Mw1103 r1087 1) fun r1105 Mw1106 => (bnd2 (f_X10_orderOf Mw1106 r1087 2) fun r1108 Mw1109 => (if (r1108 : Int32) < ((r1102) - (r1105) : Int32) then none else (bnd2 (f_X10_orderOf Mw1109 r1087 1) fun r1112 Mw1113 => (bnd2 (f_X10_bell Mw1113 z 5) fun r1115 Mw1116 => (bnd2 (f_X10_orderOf Mw1116 r1087 2) fun r1118 Mw1119 => (if (r1118 : Int32) < ((r1112) - (r1115) : Int32) then none else (lp_L_areBells_12 n Mw1119 x1027 x1028 x1029 (z + 1)))))))))) else none))) else none)))) else (lp_L_areBells_12 n Mw1082 x1027 x1028 x1029 (z + 1))) else none)))) else none))))))) else none))))) else none)))))))))))))))))))
def f_L_areBells (M : MM)  : Option (Int32 × MM) := (lp_L_areBells_12 FU M 0 0 0 0)
set_option maxHeartbeats 4000000 in
set_option maxRecDepth 100000 in
theorem t_L_areBells_12 (l : Launch) (g : GD)  {p : Program} {e : Env} {s : State} {m : MethodId} {av : Array Value} {below : List Frame} {meth : Method} {c : Code} (n : Nat) : ∀ (M : MM) (u : Int32) (v : Int32) (y : Int32) (z : Int32) (r : Int32) (M2 : MM), lp_L_areBells_12 n M u v y z = some (r, M2) → CX p s m av c cL_areBells 9 RL g → meth.sig.returnType = (some .boolean) → meth.locks = false → ∀ (H : Heap) (locs : List Loc), Wd g M H → sU g s H locs → ∀ ls : Array Slot, lv_has ls 9 [(0, rf g (0)), (1, .int (u)), (2, .int (v)), (3, .int (y)), (4, .int (1)), (5, .int (z))] → W p l e (RM 5 128) s m av below meth c H locs 0 0 (MQ below (QU g (fun v w0 => v = .int r ∧ M2 = w0)) av s 0 0 (AU g)) (F0 m 12 ls []) := by
  induction n with
  | zero => intro M u v y z r M2 h; cases h
  | succ n ih0 =>
    intro M u v y z r M2 h C hr hlk H locs hW hS ls hl
    have ih : ∀ (M : MM) (u : Int32) (v : Int32) (y : Int32) (z : Int32), lp_L_areBells_12 n M u v y z = some (r, M2) → ∀ (H : Heap) (locs : List Loc), Wd g M H → sU g s H locs → ∀ ls : Array Slot, lv_has ls 9 [(0, rf g (0)), (1, .int (u)), (2, .int (v)), (3, .int (y)), (4, .int (1)), (5, .int (z))] → W p l e (RM 5 128) s m av below meth c H locs 0 0 (MQ below (QU g (fun v w0 => v = .int r ∧ M2 = w0)) av s 0 0 (AU g)) (F0 m 12 ls []) := fun M u v y z h H locs hW hS ls hl => ih0 M u v y z r M2 h C hr hlk H locs hW hS ls hl
    unfold lp_L_areBells_12 at h
    try dsimp only at h
    have hx := C.1
    have hb := C.2.1
    have hts := C.2.2.2.2.1
    refine lv_iload hx hb dL_areBells_12 (lv_at hl 5 rfl) ?_
    refine lv_aload_n hx hb dL_areBells_14 rfl (lv_at hl 0 rfl) ?_
    refine lv_iconst (v := 1) hx hb dL_areBells_15 (by decide) ?_
    obtain ⟨r1001, Mw1002, h1003, h⟩ := bind2 h
    refine cBackC C.2.2.2.2.2.2.2.2 (runVU (As := [.int (1)]) (rest := [.int (z)]) C hW hS (c_X10_count l g M 1 _ _ h1003) kV_X10_count ml_L_13 (by decide) tm_BF rfl rfl rfl hl.1 rfl (Nat.le_of_ble_eq_true rfl) ⟨Nat.le_of_ble_eq_true rfl, Nat.le_of_ble_eq_true rfl⟩ ⟨Nat.zero_le _, Nat.zero_le _⟩ dL_areBells_16) hS (fun v0 w0 H locs hp hW hS hq => ?_)
    obtain ⟨rfl, rfl⟩ := hp
    refine lv_icmp_ge (tgt := 432) hx hb dL_areBells_19 (by decide) (fun c1004 => ?_) (fun c1004 => ?_)
    · rw [if_pos c1004] at h
      refine lv_iload hx hb dL_areBells_432 (lv_at hl 4 rfl) ?_
      refine lv_if_eq (tgt := 484) hx hb dL_areBells_434 (by decide) (fun c1005 => ?_) (fun c1005 => ?_)
      · rw [if_pos c1005] at h
        cases h
      · rw [if_neg c1005] at h
        refine lv_aload_n hx hb dL_areBells_437 rfl (lv_at hl 0 rfl) ?_
        refine lv_iconst (v := 2) hx hb dL_areBells_438 (by decide) ?_
        obtain ⟨r1006, Mw1007, h1008, h⟩ := bind2 h
        refine cBackC C.2.2.2.2.2.2.2.2 (runVU (As := [.int (2)]) (rest := []) C hW hS (c_X10_count l g Mw1002 2 _ _ h1008) kV_X10_count ml_L_13 (by decide) tm_BF rfl rfl rfl hl.1 rfl (Nat.le_of_ble_eq_true rfl) ⟨Nat.le_of_ble_eq_true rfl, Nat.le_of_ble_eq_true rfl⟩ ⟨Nat.zero_le _, Nat.zero_le _⟩ dL_areBells_439) hS (fun v0 w0 H locs hp hW hS hq => ?_)
        obtain ⟨rfl, rfl⟩ := hp
        refine lv_iload_n hx hb dL_areBells_442 rfl (lv_at hl 1 rfl) ?_
        refine lv_icmp_ne (tgt := 484) hx hb dL_areBells_443 (by decide) (fun c1009 => ?_) (fun c1009 => ?_)
        · rw [if_neg c1009] at h
          refine lv_iconst (v := 0) hx hb dL_areBells_484 (by decide) ?_
          cases h
        · rw [if_pos c1009] at h
          refine lv_aload_n hx hb dL_areBells_446 rfl (lv_at hl 0 rfl) ?_
          refine lv_iconst (v := 3) hx hb dL_areBells_447 (by decide) ?_
          obtain ⟨r1010, Mw1011, h1012, h⟩ := bind2 h
          refine cBackC C.2.2.2.2.2.2.2.2 (runVU (As := [.int (3)]) (rest := []) C hW hS (c_X10_count l g Mw1007 3 _ _ h1012) kV_X10_count ml_L_13 (by decide) tm_BF rfl rfl rfl hl.1 rfl (Nat.le_of_ble_eq_true rfl) ⟨Nat.le_of_ble_eq_true rfl, Nat.le_of_ble_eq_true rfl⟩ ⟨Nat.zero_le _, Nat.zero_le _⟩ dL_areBells_448) hS (fun v0 w0 H locs hp hW hS hq => ?_)
          obtain ⟨rfl, rfl⟩ := hp
          refine lv_iload_n hx hb dL_areBells_451 rfl (lv_at hl 2 rfl) ?_
          refine lv_icmp_ne (tgt := 484) hx hb dL_areBells_452 (by decide) (fun c1013 => ?_) (fun c1013 => ?_)
          · rw [if_neg c1013] at h
            refine lv_iconst (v := 0) hx hb dL_areBells_484 (by decide) ?_
            cases h
          · rw [if_pos c1013] at h
            refine lv_aload_n hx hb dL_areBells_455 rfl (lv_at hl 0 rfl) ?_
            refine lv_iconst (v := 4) hx hb dL_areBells_456 (by decide) ?_
            obtain ⟨r1014, Mw1015, h1016, h⟩ := bind2 h
            refine cBackC C.2.2.2.2.2.2.2.2 (runVU (As := [.int (4)]) (rest := []) C hW hS (c_X10_count l g Mw1011 4 _ _ h1016) kV_X10_count ml_L_13 (by decide) tm_BF rfl rfl rfl hl.1 rfl (Nat.le_of_ble_eq_true rfl) ⟨Nat.le_of_ble_eq_true rfl, Nat.le_of_ble_eq_true rfl⟩ ⟨Nat.zero_le _, Nat.zero_le _⟩ dL_areBells_457) hS (fun v0 w0 H locs hp hW hS hq => ?_)
            obtain ⟨rfl, rfl⟩ := hp
            refine lv_iload_n hx hb dL_areBells_460 rfl (lv_at hl 3 rfl) ?_
            refine lv_icmp_ne (tgt := 484) hx hb dL_areBells_461 (by decide) (fun c1017 => ?_) (fun c1017 => ?_)
            · rw [if_neg c1017] at h
              refine lv_iconst (v := 0) hx hb dL_areBells_484 (by decide) ?_
              cases h
            · rw [if_pos c1017] at h
              refine lv_iload_n hx hb dL_areBells_464 rfl (lv_at hl 1 rfl) ?_
              refine lv_bipush (v := 12) hx hb dL_areBells_465 (by decide) ?_
              refine lv_icmp_gt (tgt := 484) hx hb dL_areBells_467 (by decide) (fun c1018 => ?_) (fun c1018 => ?_)
              · rw [if_pos c1018] at h
                refine lv_iconst (v := 0) hx hb dL_areBells_484 (by decide) ?_
                cases h
              · rw [if_neg c1018] at h
                refine lv_aload_n hx hb dL_areBells_470 rfl (lv_at hl 0 rfl) ?_
                refine lv_bipush (v := 7) hx hb dL_areBells_471 (by decide) ?_
                obtain ⟨r1019, Mw1020, h1021, h⟩ := bind2 h
                refine cBackC C.2.2.2.2.2.2.2.2 (runVU (As := [.int (7)]) (rest := []) C hW hS (c_X10_count l g Mw1015 7 _ _ h1021) kV_X10_count ml_L_13 (by decide) tm_BF rfl rfl rfl hl.1 rfl (Nat.le_of_ble_eq_true rfl) ⟨Nat.le_of_ble_eq_true rfl, Nat.le_of_ble_eq_true rfl⟩ ⟨Nat.zero_le _, Nat.zero_le _⟩ dL_areBells_473) hS (fun v0 w0 H locs hp hW hS hq => ?_)
                obtain ⟨rfl, rfl⟩ := hp
                refine lv_iload_n hx hb dL_areBells_476 rfl (lv_at hl 3 rfl) ?_
                refine lv_icmp_ne (tgt := 484) hx hb dL_areBells_477 (by decide) (fun c1022 => ?_) (fun c1022 => ?_)
                · rw [if_neg c1022] at h
                  refine lv_iconst (v := 0) hx hb dL_areBells_484 (by decide) ?_
                  cases h
                · rw [if_pos c1022] at h
                  refine lv_iconst (v := 1) hx hb dL_areBells_480 (by decide) ?_
                  refine lv_goto (tgt := 485) hx hb dL_areBells_481 (by decide) ?_
                  cases h
                  exact rZU C hr hlk dL_areBells_485 hW hS rfl ⟨rfl, rfl⟩
    · rw [if_neg c1004] at h
      refine lv_iload hx hb dL_areBells_22 (lv_at hl 4 rfl) ?_
      refine lv_if_eq (tgt := 432) hx hb dL_areBells_24 (by decide) (fun c1023 => ?_) (fun c1023 => ?_)
      · rw [if_pos c1023] at h
        cases h
      · rw [if_neg c1023] at h
        refine lv_aload_n hx hb dL_areBells_27 rfl (lv_at hl 0 rfl) ?_
        refine lv_iload hx hb dL_areBells_28 (lv_at hl 5 rfl) ?_
        refine lv_bipush (v := 8) hx hb dL_areBells_30 (by decide) ?_
        obtain ⟨r1024, Mw1025, h1026, h⟩ := bind2 h
        refine cBackC C.2.2.2.2.2.2.2.2 (runVU (As := [.int (z), .int (8)]) (rest := []) C hW hS (c_X10_bell l g Mw1002 z 8 _ _ h1026) kV_X10_bell ml_L_26 (by decide) tm_BF rfl rfl rfl hl.1 rfl (Nat.le_of_ble_eq_true rfl) ⟨Nat.le_of_ble_eq_true rfl, Nat.le_of_ble_eq_true rfl⟩ ⟨Nat.zero_le _, Nat.zero_le _⟩ dL_areBells_32) hS (fun v0 w0 H locs hp hW hS hq => ?_)
        obtain ⟨rfl, rfl⟩ := hp
        refine lv_istore (lv' := [(6, .int (r1024)), (0, rf g (0)), (1, .int (u)), (2, .int (v)), (3, .int (y)), (4, .int (1)), (5, .int (z))]) hx hb dL_areBells_35 hl (by decide) rfl (fun ls hl => ?_)
        refine lv_iload_n hx hb dL_areBells_37 rfl (lv_at hl 2 rfl) ?_
        refine lv_iload hx hb dL_areBells_38 (lv_at hl 0 rfl) ?_
        refine lv_iconst (v := 2) hx hb dL_areBells_40 (by decide) ?_
        refine diaT (P := (2 : Int32) ≤ (r1024 : Int32)) (A := 0) (B := 1) (F := fun z9 => W p l e (RM 5 128) s m av below meth c H locs 0 0 (MQ below (QU g (fun v w0 => v = .int r ∧ M2 = w0)) av s 0 0 (AU g)) (F0 m 49 ls [.int z9, .int (u)])) (fun a9 b9 => lv_icmp_ge (tgt := 48) hx hb dL_areBells_41 (by decide) a9 b9) (fun k9 => ?_) (fun k9 => ?_) ?_
        · refine lv_iconst (v := 0) hx hb dL_areBells_48 (by decide) ?_
          exact k9
        · refine lv_iconst (v := 1) hx hb dL_areBells_44 (by decide) ?_
          refine lv_goto (tgt := 49) hx hb dL_areBells_45 (by decide) ?_
          exact k9
        refine lv_iadd hx hb dL_areBells_49 ?_
        refine lv_topi (fun x1027 ex1027 => ?_)
        have ex1027 : x1027 = (u) + (if (2 : Int32) ≤ (r1024 : Int32) then (0 : Int32) else (1 : Int32)) := ex1027
        have h := letEJ h
        try rw [← ex1027] at h
        refine lv_istore_n (lv' := [(1, .int (x1027)), (6, .int (r1024)), (0, rf g (0)), (2, .int (v)), (3, .int (y)), (4, .int (1)), (5, .int (z))]) hx hb dL_areBells_50 rfl hl (by decide) rfl (fun ls hl => ?_)
        refine lv_iload_n hx hb dL_areBells_51 rfl (lv_at hl 3 rfl) ?_
        refine lv_iload hx hb dL_areBells_52 (lv_at hl 1 rfl) ?_
        refine lv_iconst (v := 1) hx hb dL_areBells_54 (by decide) ?_
        refine diaF (P := (r1024 : Int32) = (1 : Int32)) (A := 1) (B := 0) (F := fun z9 => W p l e (RM 5 128) s m av below meth c H locs 0 0 (MQ below (QU g (fun v w0 => v = .int r ∧ M2 = w0)) av s 0 0 (AU g)) (F0 m 63 ls [.int z9, .int (v)])) (fun a9 b9 => lv_icmp_ne (tgt := 62) hx hb dL_areBells_55 (by decide) a9 b9) (fun k9 => ?_) (fun k9 => ?_) ?_
        · refine lv_iconst (v := 0) hx hb dL_areBells_62 (by decide) ?_
          exact k9
        · refine lv_iconst (v := 1) hx hb dL_areBells_58 (by decide) ?_
          refine lv_goto (tgt := 63) hx hb dL_areBells_59 (by decide) ?_
          exact k9
        refine lv_iadd hx hb dL_areBells_63 ?_
        refine lv_topi (fun x1028 ex1028 => ?_)
        have ex1028 : x1028 = (v) + (if (r1024 : Int32) = (1 : Int32) then (1 : Int32) else (0 : Int32)) := ex1028
        have h := letEJ h
        try rw [← ex1028] at h
        refine lv_istore_n (lv' := [(2, .int (x1028)), (1, .int (x1027)), (6, .int (r1024)), (0, rf g (0)), (3, .int (y)), (4, .int (1)), (5, .int (z))]) hx hb dL_areBells_64 rfl hl (by decide) rfl (fun ls hl => ?_)
        refine lv_iload_n hx hb dL_areBells_65 rfl (lv_at hl 4 rfl) ?_
        refine lv_iload hx hb dL_areBells_66 (lv_at hl 2 rfl) ?_
        refine lv_iconst (v := 2) hx hb dL_areBells_68 (by decide) ?_
        refine diaF (P := (r1024 : Int32) = (2 : Int32)) (A := 1) (B := 0) (F := fun z9 => W p l e (RM 5 128) s m av below meth c H locs 0 0 (MQ below (QU g (fun v w0 => v = .int r ∧ M2 = w0)) av s 0 0 (AU g)) (F0 m 77 ls [.int z9, .int (y)])) (fun a9 b9 => lv_icmp_ne (tgt := 76) hx hb dL_areBells_69 (by decide) a9 b9) (fun k9 => ?_) (fun k9 => ?_) ?_
        · refine lv_iconst (v := 0) hx hb dL_areBells_76 (by decide) ?_
          exact k9
        · refine lv_iconst (v := 1) hx hb dL_areBells_72 (by decide) ?_
          refine lv_goto (tgt := 77) hx hb dL_areBells_73 (by decide) ?_
          exact k9
        refine lv_iadd hx hb dL_areBells_77 ?_
        refine lv_topi (fun x1029 ex1029 => ?_)
        have ex1029 : x1029 = (y) + (if (r1024 : Int32) = (2 : Int32) then (1 : Int32) else (0 : Int32)) := ex1029
        have h := letEJ h
        try rw [← ex1029] at h
        refine lv_istore_n (lv' := [(3, .int (x1029)), (2, .int (x1028)), (1, .int (x1027)), (6, .int (r1024)), (0, rf g (0)), (4, .int (1)), (5, .int (z))]) hx hb dL_areBells_78 rfl hl (by decide) rfl (fun ls hl => ?_)
        refine lv_aload_n hx hb dL_areBells_79 rfl (lv_at hl 4 rfl) ?_
        refine lv_iload hx hb dL_areBells_80 (lv_at hl 6 rfl) ?_
        refine lv_iconst (v := 2) hx hb dL_areBells_82 (by decide) ?_
        obtain ⟨r1030, Mw1031, h1032, h⟩ := bind2 h
        refine cBackC C.2.2.2.2.2.2.2.2 (runVU (As := [.int (z), .int (2)]) (rest := []) C hW hS (c_X10_bell l g Mw1025 z 2 _ _ h1032) kV_X10_bell ml_L_26 (by decide) tm_BF rfl rfl rfl hl.1 rfl (Nat.le_of_ble_eq_true rfl) ⟨Nat.le_of_ble_eq_true rfl, Nat.le_of_ble_eq_true rfl⟩ ⟨Nat.zero_le _, Nat.zero_le _⟩ dL_areBells_83) hS (fun v0 w0 H locs hp hW hS hq => ?_)
        obtain ⟨rfl, rfl⟩ := hp
        refine lv_istore (lv' := [(7, .int (r1030)), (3, .int (x1029)), (2, .int (x1028)), (1, .int (x1027)), (6, .int (r1024)), (0, rf g (0)), (4, .int (1)), (5, .int (z))]) hx hb dL_areBells_86 hl (by decide) rfl (fun ls hl => ?_)
        refine lv_iload hx hb dL_areBells_88 (lv_at hl 4 rfl) ?_
        refine lv_if_lt (tgt := 176) hx hb dL_areBells_90 (by decide) (fun c1033 => ?_) (fun c1033 => ?_)
        · rw [if_pos c1033] at h
          refine lv_iconst (v := 0) hx hb dL_areBells_176 (by decide) ?_
          cases h
        · rw [if_neg c1033] at h
          refine lv_iload hx hb dL_areBells_93 (lv_at hl 4 rfl) ?_
          refine lv_iconst (v := 4) hx hb dL_areBells_95 (by decide) ?_
          refine lv_icmp_ge (tgt := 176) hx hb dL_areBells_96 (by decide) (fun c1034 => ?_) (fun c1034 => ?_)
          · rw [if_pos c1034] at h
            refine lv_iconst (v := 0) hx hb dL_areBells_176 (by decide) ?_
            cases h
          · rw [if_neg c1034] at h
            refine lv_aload_n hx hb dL_areBells_99 rfl (lv_at hl 5 rfl) ?_
            refine lv_iload hx hb dL_areBells_100 (lv_at hl 7 rfl) ?_
            refine lv_iconst (v := 5) hx hb dL_areBells_102 (by decide) ?_
            obtain ⟨r1035, Mw1036, h1037, h⟩ := bind2 h
            refine cBackC C.2.2.2.2.2.2.2.2 (runVU (As := [.int (z), .int (5)]) (rest := []) C hW hS (c_X10_bell l g Mw1031 z 5 _ _ h1037) kV_X10_bell ml_L_26 (by decide) tm_BF rfl rfl rfl hl.1 rfl (Nat.le_of_ble_eq_true rfl) ⟨Nat.le_of_ble_eq_true rfl, Nat.le_of_ble_eq_true rfl⟩ ⟨Nat.zero_le _, Nat.zero_le _⟩ dL_areBells_103) hS (fun v0 w0 H locs hp hW hS hq => ?_)
            obtain ⟨rfl, rfl⟩ := hp
            refine lv_iconst (v := 1) hx hb dL_areBells_106 (by decide) ?_
            refine lv_icmp_lt (tgt := 176) hx hb dL_areBells_107 (by decide) (fun c1038 => ?_) (fun c1038 => ?_)
            · rw [if_pos c1038] at h
              refine lv_iconst (v := 0) hx hb dL_areBells_176 (by decide) ?_
              cases h
            · rw [if_neg c1038] at h
              refine lv_aload_n hx hb dL_areBells_110 rfl (lv_at hl 5 rfl) ?_
              refine lv_iload hx hb dL_areBells_111 (lv_at hl 7 rfl) ?_
              refine lv_bipush (v := 7) hx hb dL_areBells_113 (by decide) ?_
              obtain ⟨r1039, Mw1040, h1041, h⟩ := bind2 h
              refine cBackC C.2.2.2.2.2.2.2.2 (runVU (As := [.int (z), .int (7)]) (rest := []) C hW hS (c_X10_bell l g Mw1036 z 7 _ _ h1041) kV_X10_bell ml_L_26 (by decide) tm_BF rfl rfl rfl hl.1 rfl (Nat.le_of_ble_eq_true rfl) ⟨Nat.le_of_ble_eq_true rfl, Nat.le_of_ble_eq_true rfl⟩ ⟨Nat.zero_le _, Nat.zero_le _⟩ dL_areBells_115) hS (fun v0 w0 H locs hp hW hS hq => ?_)
              obtain ⟨rfl, rfl⟩ := hp
              refine lv_if_lt (tgt := 176) hx hb dL_areBells_118 (by decide) (fun c1042 => ?_) (fun c1042 => ?_)
              · rw [if_pos c1042] at h
                refine lv_iconst (v := 0) hx hb dL_areBells_176 (by decide) ?_
                cases h
              · rw [if_neg c1042] at h
                refine lv_aload_n hx hb dL_areBells_121 rfl (lv_at hl 5 rfl) ?_
                refine lv_iload hx hb dL_areBells_122 (lv_at hl 7 rfl) ?_
                refine lv_bipush (v := 7) hx hb dL_areBells_124 (by decide) ?_
                obtain ⟨r1043, Mw1044, h1045, h⟩ := bind2 h
                refine cBackC C.2.2.2.2.2.2.2.2 (runVU (As := [.int (z), .int (7)]) (rest := []) C hW hS (c_X10_bell l g Mw1040 z 7 _ _ h1045) kV_X10_bell ml_L_26 (by decide) tm_BF rfl rfl rfl hl.1 rfl (Nat.le_of_ble_eq_true rfl) ⟨Nat.le_of_ble_eq_true rfl, Nat.le_of_ble_eq_true rfl⟩ ⟨Nat.zero_le _, Nat.zero_le _⟩ dL_areBells_126) hS (fun v0 w0 H locs hp hW hS hq => ?_)
                obtain ⟨rfl, rfl⟩ := hp
                refine lv_aload_n hx hb dL_areBells_129 rfl (lv_at hl 5 rfl) ?_
                refine lv_iload hx hb dL_areBells_130 (lv_at hl 7 rfl) ?_
                refine lv_bipush (v := 6) hx hb dL_areBells_132 (by decide) ?_
                obtain ⟨r1046, Mw1047, h1048, h⟩ := bind2 h
                refine cBackC C.2.2.2.2.2.2.2.2 (runVU (As := [.int (z), .int (6)]) (rest := [.int (r1043)]) C hW hS (c_X10_bell l g Mw1044 z 6 _ _ h1048) kV_X10_bell ml_L_26 (by decide) tm_BF rfl rfl rfl hl.1 rfl (Nat.le_of_ble_eq_true rfl) ⟨Nat.le_of_ble_eq_true rfl, Nat.le_of_ble_eq_true rfl⟩ ⟨Nat.zero_le _, Nat.zero_le _⟩ dL_areBells_134) hS (fun v0 w0 H locs hp hW hS hq => ?_)
                obtain ⟨rfl, rfl⟩ := hp
                refine lv_icmp_ge (tgt := 176) hx hb dL_areBells_137 (by decide) (fun c1049 => ?_) (fun c1049 => ?_)
                · rw [if_pos c1049] at h
                  refine lv_iconst (v := 0) hx hb dL_areBells_176 (by decide) ?_
                  cases h
                · rw [if_neg c1049] at h
                  refine lv_iload hx hb dL_areBells_140 (lv_at hl 4 rfl) ?_
                  refine lv_iconst (v := 2) hx hb dL_areBells_142 (by decide) ?_
                  refine diaF (P := (r1024 : Int32) = (2 : Int32)) (A := 1) (B := 0) (F := fun z9 => W p l e (RM 5 128) s m av below meth c H locs 0 0 (MQ below (QU g (fun v w0 => v = .int r ∧ M2 = w0)) av s 0 0 (AU g)) (F0 m 151 ls [.int z9])) (fun a9 b9 => lv_icmp_ne (tgt := 150) hx hb dL_areBells_143 (by decide) a9 b9) (fun k9 => ?_) (fun k9 => ?_) ?_
                  · refine lv_iconst (v := 0) hx hb dL_areBells_150 (by decide) ?_
                    exact k9
                  · refine lv_iconst (v := 1) hx hb dL_areBells_146 (by decide) ?_
                    refine lv_goto (tgt := 151) hx hb dL_areBells_147 (by decide) ?_
                    exact k9
                  refine lv_aload_n hx hb dL_areBells_151 rfl (lv_at hl 5 rfl) ?_
                  refine lv_iload hx hb dL_areBells_152 (lv_at hl 7 rfl) ?_
                  refine lv_bipush (v := 9) hx hb dL_areBells_154 (by decide) ?_
                  obtain ⟨r1050, Mw1051, h1052, h⟩ := bind2 h
                  refine cBackC C.2.2.2.2.2.2.2.2 (runVU (As := [.int (z), .int (9)]) (rest := [.int (if (r1024 : Int32) = (2 : Int32) then (1 : Int32) else (0 : Int32))]) C hW hS (c_X10_bell l g Mw1047 z 9 _ _ h1052) kV_X10_bell ml_L_26 (by decide) tm_BF rfl rfl rfl hl.1 rfl (Nat.le_of_ble_eq_true rfl) ⟨Nat.le_of_ble_eq_true rfl, Nat.le_of_ble_eq_true rfl⟩ ⟨Nat.zero_le _, Nat.zero_le _⟩ dL_areBells_156) hS (fun v0 w0 H locs hp hW hS hq => ?_)
                  obtain ⟨rfl, rfl⟩ := hp
                  refine lv_bipush (v := -4) hx hb dL_areBells_159 (by decide) ?_
                  refine diaT (P := (r1050 : Int32) = (-4 : Int32)) (A := 0) (B := 1) (F := fun z9 => W p l e (RM 5 128) s m av below meth c H locs 0 0 (MQ below (QU g (fun v w0 => v = .int r ∧ M2 = w0)) av s 0 0 (AU g)) (F0 m 169 ls [.int z9, .int (if (r1024 : Int32) = (2 : Int32) then (1 : Int32) else (0 : Int32))])) (fun a9 b9 => lv_icmp_eq (tgt := 168) hx hb dL_areBells_161 (by decide) a9 b9) (fun k9 => ?_) (fun k9 => ?_) ?_
                  · refine lv_iconst (v := 0) hx hb dL_areBells_168 (by decide) ?_
                    exact k9
                  · refine lv_iconst (v := 1) hx hb dL_areBells_164 (by decide) ?_
                    refine lv_goto (tgt := 169) hx hb dL_areBells_165 (by decide) ?_
                    exact k9
                  refine lv_icmp_ne (tgt := 176) hx hb dL_areBells_169 (by decide) (fun c1053 => ?_) (fun c1053 => ?_)
                  · rw [if_neg c1053] at h
                    refine lv_iconst (v := 0) hx hb dL_areBells_176 (by decide) ?_
                    cases h
                  · rw [if_pos c1053] at h
                    refine lv_iconst (v := 1) hx hb dL_areBells_172 (by decide) ?_
                    refine lv_goto (tgt := 177) hx hb dL_areBells_173 (by decide) ?_
                    refine lv_istore (lv' := [(4, .int (1)), (7, .int (r1030)), (3, .int (x1029)), (2, .int (x1028)), (1, .int (x1027)), (6, .int (r1024)), (0, rf g (0)), (5, .int (z))]) hx hb dL_areBells_177 hl (by decide) rfl (fun ls hl => ?_)
                    refine lv_iload hx hb dL_areBells_179 (lv_at hl 5 rfl) ?_
                    refine lv_iconst (v := 3) hx hb dL_areBells_181 (by decide) ?_
                    refine lv_icmp_ne (tgt := 219) hx hb dL_areBells_182 (by decide) (fun c1054 => ?_) (fun c1054 => ?_)
                    · rw [if_neg c1054] at h
                      refine lv_iload hx hb dL_areBells_219 (lv_at hl 0 rfl) ?_
                      refine lv_if_eq (tgt := 317) hx hb dL_areBells_221 (by decide) (fun c1055 => ?_) (fun c1055 => ?_)
                      · rw [if_pos c1055] at h
                        cases h
                      · rw [if_neg c1055] at h
                        refine lv_iload hx hb dL_areBells_224 (lv_at hl 1 rfl) ?_
                        refine lv_aload_n hx hb dL_areBells_226 rfl (lv_at hl 6 rfl) ?_
                        refine lv_iload hx hb dL_areBells_227 (lv_at hl 7 rfl) ?_
                        refine lv_bipush (v := 7) hx hb dL_areBells_229 (by decide) ?_
                        obtain ⟨r1056, Mw1057, h1058, h⟩ := bind2 h
                        refine cBackC C.2.2.2.2.2.2.2.2 (runVU (As := [.int (z), .int (7)]) (rest := [.int (r1030)]) C hW hS (c_X10_bell l g Mw1051 z 7 _ _ h1058) kV_X10_bell ml_L_26 (by decide) tm_BF rfl rfl rfl hl.1 rfl (Nat.le_of_ble_eq_true rfl) ⟨Nat.le_of_ble_eq_true rfl, Nat.le_of_ble_eq_true rfl⟩ ⟨Nat.zero_le _, Nat.zero_le _⟩ dL_areBells_231) hS (fun v0 w0 H locs hp hW hS hq => ?_)
                        obtain ⟨rfl, rfl⟩ := hp
                        refine lv_iadd hx hb dL_areBells_234 ?_
                        refine lv_aload_n hx hb dL_areBells_235 rfl (lv_at hl 6 rfl) ?_
                        refine lv_iload hx hb dL_areBells_236 (lv_at hl 7 rfl) ?_
                        refine lv_bipush (v := 6) hx hb dL_areBells_238 (by decide) ?_
                        obtain ⟨r1059, Mw1060, h1061, h⟩ := bind2 h
                        refine cBackC C.2.2.2.2.2.2.2.2 (runVU (As := [.int (z), .int (6)]) (rest := [.int ((r1030) + (r1056))]) C hW hS (c_X10_bell l g Mw1057 z 6 _ _ h1061) kV_X10_bell ml_L_26 (by decide) tm_BF rfl rfl rfl hl.1 rfl (Nat.le_of_ble_eq_true rfl) ⟨Nat.le_of_ble_eq_true rfl, Nat.le_of_ble_eq_true rfl⟩ ⟨Nat.zero_le _, Nat.zero_le _⟩ dL_areBells_240) hS (fun v0 w0 H locs hp hW hS hq => ?_)
                        obtain ⟨rfl, rfl⟩ := hp
                        refine lv_icmp_ne (tgt := 317) hx hb dL_areBells_243 (by decide) (fun c1062 => ?_) (fun c1062 => ?_)
                        · rw [if_neg c1062] at h
                          refine lv_iconst (v := 0) hx hb dL_areBells_317 (by decide) ?_
                          cases h
                        · rw [if_pos c1062] at h
                          refine lv_aload_n hx hb dL_areBells_246 rfl (lv_at hl 6 rfl) ?_
                          refine lv_iload hx hb dL_areBells_247 (lv_at hl 7 rfl) ?_
                          refine lv_iconst (v := 0) hx hb dL_areBells_249 (by decide) ?_
                          obtain ⟨r1063, Mw1064, h1065, h⟩ := bind2 h
                          refine cBackC C.2.2.2.2.2.2.2.2 (runVU (As := [.int (z), .int (0)]) (rest := []) C hW hS (c_X10_bell l g Mw1060 z 0 _ _ h1065) kV_X10_bell ml_L_26 (by decide) tm_BF rfl rfl rfl hl.1 rfl (Nat.le_of_ble_eq_true rfl) ⟨Nat.le_of_ble_eq_true rfl, Nat.le_of_ble_eq_true rfl⟩ ⟨Nat.zero_le _, Nat.zero_le _⟩ dL_areBells_250) hS (fun v0 w0 H locs hp hW hS hq => ?_)
                          obtain ⟨rfl, rfl⟩ := hp
                          refine lv_if_lt (tgt := 317) hx hb dL_areBells_253 (by decide) (fun c1066 => ?_) (fun c1066 => ?_)
                          · rw [if_pos c1066] at h
                            refine lv_iconst (v := 0) hx hb dL_areBells_317 (by decide) ?_
                            cases h
                          · rw [if_neg c1066] at h
                            refine lv_aload_n hx hb dL_areBells_256 rfl (lv_at hl 6 rfl) ?_
                            refine lv_iload hx hb dL_areBells_257 (lv_at hl 7 rfl) ?_
                            refine lv_iconst (v := 1) hx hb dL_areBells_259 (by decide) ?_
                            obtain ⟨r1067, Mw1068, h1069, h⟩ := bind2 h
                            refine cBackC C.2.2.2.2.2.2.2.2 (runVU (As := [.int (z), .int (1)]) (rest := []) C hW hS (c_X10_bell l g Mw1064 z 1 _ _ h1069) kV_X10_bell ml_L_26 (by decide) tm_BF rfl rfl rfl hl.1 rfl (Nat.le_of_ble_eq_true rfl) ⟨Nat.le_of_ble_eq_true rfl, Nat.le_of_ble_eq_true rfl⟩ ⟨Nat.zero_le _, Nat.zero_le _⟩ dL_areBells_260) hS (fun v0 w0 H locs hp hW hS hq => ?_)
                            obtain ⟨rfl, rfl⟩ := hp
                            refine lv_if_lt (tgt := 317) hx hb dL_areBells_263 (by decide) (fun c1070 => ?_) (fun c1070 => ?_)
                            · rw [if_pos c1070] at h
                              refine lv_iconst (v := 0) hx hb dL_areBells_317 (by decide) ?_
                              cases h
                            · rw [if_neg c1070] at h
                              refine lv_aload_n hx hb dL_areBells_266 rfl (lv_at hl 6 rfl) ?_
                              refine lv_iload hx hb dL_areBells_267 (lv_at hl 7 rfl) ?_
                              refine lv_iconst (v := 0) hx hb dL_areBells_269 (by decide) ?_
                              obtain ⟨r1071, Mw1072, h1073, h⟩ := bind2 h
                              refine cBackC C.2.2.2.2.2.2.2.2 (runVU (As := [.int (z), .int (0)]) (rest := []) C hW hS (c_X10_bell l g Mw1068 z 0 _ _ h1073) kV_X10_bell ml_L_26 (by decide) tm_BF rfl rfl rfl hl.1 rfl (Nat.le_of_ble_eq_true rfl) ⟨Nat.le_of_ble_eq_true rfl, Nat.le_of_ble_eq_true rfl⟩ ⟨Nat.zero_le _, Nat.zero_le _⟩ dL_areBells_270) hS (fun v0 w0 H locs hp hW hS hq => ?_)
                              obtain ⟨rfl, rfl⟩ := hp
                              refine lv_aload_n hx hb dL_areBells_273 rfl (lv_at hl 6 rfl) ?_
                              refine lv_iload hx hb dL_areBells_274 (lv_at hl 7 rfl) ?_
                              refine lv_iconst (v := 1) hx hb dL_areBells_276 (by decide) ?_
                              obtain ⟨r1074, Mw1075, h1076, h⟩ := bind2 h
                              refine cBackC C.2.2.2.2.2.2.2.2 (runVU (As := [.int (z), .int (1)]) (rest := [.int (r1071)]) C hW hS (c_X10_bell l g Mw1072 z 1 _ _ h1076) kV_X10_bell ml_L_26 (by decide) tm_BF rfl rfl rfl hl.1 rfl (Nat.le_of_ble_eq_true rfl) ⟨Nat.le_of_ble_eq_true rfl, Nat.le_of_ble_eq_true rfl⟩ ⟨Nat.zero_le _, Nat.zero_le _⟩ dL_areBells_277) hS (fun v0 w0 H locs hp hW hS hq => ?_)
                              obtain ⟨rfl, rfl⟩ := hp
                              refine lv_iadd hx hb dL_areBells_280 ?_
                              refine lv_iload hx hb dL_areBells_281 (lv_at hl 1 rfl) ?_
                              refine lv_icmp_ne (tgt := 317) hx hb dL_areBells_283 (by decide) (fun c1077 => ?_) (fun c1077 => ?_)
                              · rw [if_neg c1077] at h
                                refine lv_iconst (v := 0) hx hb dL_areBells_317 (by decide) ?_
                                cases h
                              · rw [if_pos c1077] at h
                                refine lv_aload_n hx hb dL_areBells_286 rfl (lv_at hl 6 rfl) ?_
                                refine lv_iload hx hb dL_areBells_287 (lv_at hl 7 rfl) ?_
                                refine lv_iconst (v := 3) hx hb dL_areBells_289 (by decide) ?_
                                obtain ⟨r1078, Mw1079, h1080, h⟩ := bind2 h
                                refine cBackC C.2.2.2.2.2.2.2.2 (runVU (As := [.int (z), .int (3)]) (rest := []) C hW hS (c_X10_bell l g Mw1075 z 3 _ _ h1080) kV_X10_bell ml_L_26 (by decide) tm_BF rfl rfl rfl hl.1 rfl (Nat.le_of_ble_eq_true rfl) ⟨Nat.le_of_ble_eq_true rfl, Nat.le_of_ble_eq_true rfl⟩ ⟨Nat.zero_le _, Nat.zero_le _⟩ dL_areBells_290) hS (fun v0 w0 H locs hp hW hS hq => ?_)
                                obtain ⟨rfl, rfl⟩ := hp
                                refine lv_ldc2 hx hb C.2.2.2.1 (C.2.2.2.2.1 _ kc_L_87) dL_areBells_293 ?_
                                refine lv_aload_n hx hb dL_areBells_296 rfl (lv_at hl 6 rfl) ?_
                                refine lv_iload hx hb dL_areBells_297 (lv_at hl 7 rfl) ?_
                                refine lv_iconst (v := 1) hx hb dL_areBells_299 (by decide) ?_
                                obtain ⟨r1081, Mw1082, h1083, h⟩ := bind2 h
                                refine cBackC C.2.2.2.2.2.2.2.2 (runVU (As := [.int (z), .int (1)]) (rest := [.long (1000), .int (r1078)]) C hW hS (c_X10_bell l g Mw1079 z 1 _ _ h1083) kV_X10_bell ml_L_26 (by decide) tm_BF rfl rfl rfl hl.1 rfl (Nat.le_of_ble_eq_true rfl) ⟨Nat.le_of_ble_eq_true rfl, Nat.le_of_ble_eq_true rfl⟩ ⟨Nat.zero_le _, Nat.zero_le _⟩ dL_areBells_300) hS (fun v0 w0 H locs hp hW hS hq => ?_)
                                obtain ⟨rfl, rfl⟩ := hp
                                refine lv_i2l hx hb dL_areBells_303 rfl ?_
                                refine lv_lmul hx hb dL_areBells_304 ?_
                                refine lv_iload hx hb dL_areBells_305 (lv_at hl 1 rfl) ?_
                                refine lv_i2l hx hb dL_areBells_307 rfl ?_
                                have s1084 : ¬ ((Int32.toInt64 (r1030) : Int64) = 0) := fun q9 => by rw [if_pos q9] at h; cases h
                                rw [if_neg s1084] at h
                                refine lv_ldiv hx hb dL_areBells_308 s1084 ?_
                                refine lv_l2i hx hb dL_areBells_309 rfl ?_
                                refine lv_icmp_ne (tgt := 317) hx hb dL_areBells_310 (by decide) (fun c1085 => ?_) (fun c1085 => ?_)
                                · rw [if_neg c1085] at h
                                  refine lv_iconst (v := 0) hx hb dL_areBells_317 (by decide) ?_
                                  cases h
                                · rw [if_pos c1085] at h
                                  refine lv_iconst (v := 1) hx hb dL_areBells_313 (by decide) ?_
                                  refine lv_goto (tgt := 318) hx hb dL_areBells_314 (by decide) ?_
                                  refine lv_istore (lv' := [(4, .int (1)), (7, .int (r1030)), (3, .int (x1029)), (2, .int (x1028)), (1, .int (x1027)), (6, .int (r1024)), (0, rf g (0)), (5, .int (z))]) hx hb dL_areBells_318 hl (by decide) rfl (fun ls hl => ?_)
                                  refine lv_iload hx hb dL_areBells_320 (lv_at hl 5 rfl) ?_
                                  refine lv_iconst (v := 2) hx hb dL_areBells_322 (by decide) ?_
                                  refine lv_icmp_ne (tgt := 426) hx hb dL_areBells_323 (by decide) (fun c1086 => ?_) (fun c1086 => ?_)
                                  · rw [if_neg c1086] at h
                                    refine lv_iinc (v := z + 1) (lv' := [(5, .int (z + 1)), (4, .int (1)), (7, .int (r1030)), (3, .int (x1029)), (2, .int (x1028)), (1, .int (x1027)), (6, .int (r1024)), (0, rf g (0))]) hx hb dL_areBells_426 hl (k := 7) rfl rfl (by decide) rfl (fun ls hl => ?_)
                                    refine lv_goto (tgt := 12) hx hb dL_areBells_429 (by decide) ?_
                                    exact ih Mw1082 x1027 x1028 x1029 (z + 1) h _ _ hW hS ls (lv_sub hl [7, 5, 4, 3, 1, 0] rfl)
                                  · rw [if_pos c1086] at h
                                    refine lv_aload_n hx hb dL_areBells_326 rfl (lv_at hl 6 rfl) ?_
                                    refine lv_iload hx hb dL_areBells_327 (lv_at hl 7 rfl) ?_
                                    refine lv_bipush (v := 9) hx hb dL_areBells_329 (by decide) ?_
                                    obtain ⟨r1087, Mw1088, h1089, h⟩ := bind2 h
                                    refine cBackC C.2.2.2.2.2.2.2.2 (runVU (As := [.int (z), .int (9)]) (rest := []) C hW hS (c_X10_bell l g Mw1082 z 9 _ _ h1089) kV_X10_bell ml_L_26 (by decide) tm_BF rfl rfl rfl hl.1 rfl (Nat.le_of_ble_eq_true rfl) ⟨Nat.le_of_ble_eq_true rfl, Nat.le_of_ble_eq_true rfl⟩ ⟨Nat.zero_le _, Nat.zero_le _⟩ dL_areBells_331) hS (fun v0 w0 H locs hp hW hS hq => ?_)
                                    obtain ⟨rfl, rfl⟩ := hp
                                    refine lv_istore (lv' := [(8, .int (r1087)), (4, .int (1)), (7, .int (r1030)), (3, .int (x1029)), (2, .int (x1028)), (1, .int (x1027)), (6, .int (r1024)), (0, rf g (0)), (5, .int (z))]) hx hb dL_areBells_334 hl (by decide) rfl (fun ls hl => ?_)
                                    refine lv_iload hx hb dL_areBells_336 (lv_at hl 1 rfl) ?_
                                    refine lv_if_eq (tgt := 423) hx hb dL_areBells_338 (by decide) (fun c1090 => ?_) (fun c1090 => ?_)
                                    · rw [if_pos c1090] at h
                                      cases h
                                    · rw [if_neg c1090] at h
                                      refine lv_aload_n hx hb dL_areBells_341 rfl (lv_at hl 7 rfl) ?_
                                      refine lv_iload hx hb dL_areBells_342 (lv_at hl 0 rfl) ?_
                                      refine lv_iconst (v := 3) hx hb dL_areBells_344 (by decide) ?_
                                      obtain ⟨r1091, Mw1092, h1093, h⟩ := bind2 h
                                      refine cBackC C.2.2.2.2.2.2.2.2 (runVU (As := [.int (r1087), .int (3)]) (rest := []) C hW hS (c_X10_orderOf l g Mw1088 r1087 3 _ _ h1093) kV_X10_orderOf ml_L_29 (by decide) tm_BF rfl rfl rfl hl.1 rfl (Nat.le_of_ble_eq_true rfl) ⟨Nat.le_of_ble_eq_true rfl, Nat.le_of_ble_eq_true rfl⟩ ⟨Nat.zero_le _, Nat.zero_le _⟩ dL_areBells_345) hS (fun v0 w0 H locs hp hW hS hq => ?_)
                                      obtain ⟨rfl, rfl⟩ := hp
                                      refine lv_iconst (v := 1) hx hb dL_areBells_348 (by decide) ?_
                                      refine lv_icmp_ne (tgt := 423) hx hb dL_areBells_349 (by decide) (fun c1094 => ?_) (fun c1094 => ?_)
                                      · rw [if_neg c1094] at h
                                        refine lv_iconst (v := 0) hx hb dL_areBells_423 (by decide) ?_
                                        cases h
                                      · rw [if_pos c1094] at h
                                        refine lv_aload_n hx hb dL_areBells_352 rfl (lv_at hl 7 rfl) ?_
                                        refine lv_iload hx hb dL_areBells_353 (lv_at hl 0 rfl) ?_
                                        refine lv_iconst (v := 0) hx hb dL_areBells_355 (by decide) ?_
                                        obtain ⟨r1095, Mw1096, h1097, h⟩ := bind2 h
                                        refine cBackC C.2.2.2.2.2.2.2.2 (runVU (As := [.int (r1087), .int (0)]) (rest := []) C hW hS (c_X10_orderOf l g Mw1092 r1087 0 _ _ h1097) kV_X10_orderOf ml_L_29 (by decide) tm_BF rfl rfl rfl hl.1 rfl (Nat.le_of_ble_eq_true rfl) ⟨Nat.le_of_ble_eq_true rfl, Nat.le_of_ble_eq_true rfl⟩ ⟨Nat.zero_le _, Nat.zero_le _⟩ dL_areBells_356) hS (fun v0 w0 H locs hp hW hS hq => ?_)
                                        obtain ⟨rfl, rfl⟩ := hp
                                        refine lv_aload_n hx hb dL_areBells_359 rfl (lv_at hl 7 rfl) ?_
                                        refine lv_iload hx hb dL_areBells_360 (lv_at hl 8 rfl) ?_
                                        refine lv_iconst (v := 4) hx hb dL_areBells_362 (by decide) ?_
                                        obtain ⟨r1098, Mw1099, h1100, h⟩ := bind2 h
                                        refine cBackC C.2.2.2.2.2.2.2.2 (runVU (As := [.int (z), .int (4)]) (rest := [.int (r1095)]) C hW hS (c_X10_bell l g Mw1096 z 4 _ _ h1100) kV_X10_bell ml_L_26 (by decide) tm_BF rfl rfl rfl hl.1 rfl (Nat.le_of_ble_eq_true rfl) ⟨Nat.le_of_ble_eq_true rfl, Nat.le_of_ble_eq_true rfl⟩ ⟨Nat.zero_le _, Nat.zero_le _⟩ dL_areBells_363) hS (fun v0 w0 H locs hp hW hS hq => ?_)
                                        obtain ⟨rfl, rfl⟩ := hp
                                        refine lv_icmp_ne (tgt := 423) hx hb dL_areBells_366 (by decide) (fun c1101 => ?_) (fun c1101 => ?_)
                                        · rw [if_neg c1101] at h
                                          refine lv_iconst (v := 0) hx hb dL_areBells_423 (by decide) ?_
                                          cases h
                                        · rw [if_pos c1101] at h
                                          refine lv_aload_n hx hb dL_areBells_369 rfl (lv_at hl 7 rfl) ?_
                                          refine lv_iload hx hb dL_areBells_370 (lv_at hl 8 rfl) ?_
                                          refine lv_iconst (v := 5) hx hb dL_areBells_372 (by decide) ?_
                                          obtain ⟨r1102, Mw1103, h1104, h⟩ := bind2 h
                                          refine cBackC C.2.2.2.2.2.2.2.2 (runVU (As := [.int (z), .int (5)]) (rest := []) C hW hS (c_X10_bell l g Mw1099 z 5 _ _ h1104) kV_X10_bell ml_L_26 (by decide) tm_BF rfl rfl rfl hl.1 rfl (Nat.le_of_ble_eq_true rfl) ⟨Nat.le_of_ble_eq_true rfl, Nat.le_of_ble_eq_true rfl⟩ ⟨Nat.zero_le _, Nat.zero_le _⟩ dL_areBells_373) hS (fun v0 w0 H locs hp hW hS hq => ?_)
                                          obtain ⟨rfl, rfl⟩ := hp
                                          refine lv_aload_n hx hb dL_areBells_376 rfl (lv_at hl 7 rfl) ?_
                                          refine lv_iload hx hb dL_areBells_377 (lv_at hl 0 rfl) ?_
                                          refine lv_iconst (v := 1) hx hb dL_areBells_379 (by decide) ?_
                                          obtain ⟨r1105, Mw1106, h1107, h⟩ := bind2 h
                                          refine cBackC C.2.2.2.2.2.2.2.2 (runVU (As := [.int (r1087), .int (1)]) (rest := [.int (r1102)]) C hW hS (c_X10_orderOf l g Mw1103 r1087 1 _ _ h1107) kV_X10_orderOf ml_L_29 (by decide) tm_BF rfl rfl rfl hl.1 rfl (Nat.le_of_ble_eq_true rfl) ⟨Nat.le_of_ble_eq_true rfl, Nat.le_of_ble_eq_true rfl⟩ ⟨Nat.zero_le _, Nat.zero_le _⟩ dL_areBells_380) hS (fun v0 w0 H locs hp hW hS hq => ?_)
                                          obtain ⟨rfl, rfl⟩ := hp
                                          refine lv_isub hx hb dL_areBells_383 ?_
                                          refine lv_aload_n hx hb dL_areBells_384 rfl (lv_at hl 7 rfl) ?_
                                          refine lv_iload hx hb dL_areBells_385 (lv_at hl 0 rfl) ?_
                                          refine lv_iconst (v := 2) hx hb dL_areBells_387 (by decide) ?_
                                          obtain ⟨r1108, Mw1109, h1110, h⟩ := bind2 h
                                          refine cBackC C.2.2.2.2.2.2.2.2 (runVU (As := [.int (r1087), .int (2)]) (rest := [.int ((r1102) - (r1105))]) C hW hS (c_X10_orderOf l g Mw1106 r1087 2 _ _ h1110) kV_X10_orderOf ml_L_29 (by decide) tm_BF rfl rfl rfl hl.1 rfl (Nat.le_of_ble_eq_true rfl) ⟨Nat.le_of_ble_eq_true rfl, Nat.le_of_ble_eq_true rfl⟩ ⟨Nat.zero_le _, Nat.zero_le _⟩ dL_areBells_388) hS (fun v0 w0 H locs hp hW hS hq => ?_)
                                          obtain ⟨rfl, rfl⟩ := hp
                                          refine lv_icmp_gt (tgt := 423) hx hb dL_areBells_391 (by decide) (fun c1111 => ?_) (fun c1111 => ?_)
                                          · rw [if_pos c1111] at h
                                            refine lv_iconst (v := 0) hx hb dL_areBells_423 (by decide) ?_
                                            cases h
                                          · rw [if_neg c1111] at h
                                            refine lv_aload_n hx hb dL_areBells_394 rfl (lv_at hl 7 rfl) ?_
                                            refine lv_iload hx hb dL_areBells_395 (lv_at hl 0 rfl) ?_
                                            refine lv_iconst (v := 1) hx hb dL_areBells_397 (by decide) ?_
                                            obtain ⟨r1112, Mw1113, h1114, h⟩ := bind2 h
                                            refine cBackC C.2.2.2.2.2.2.2.2 (runVU (As := [.int (r1087), .int (1)]) (rest := []) C hW hS (c_X10_orderOf l g Mw1109 r1087 1 _ _ h1114) kV_X10_orderOf ml_L_29 (by decide) tm_BF rfl rfl rfl hl.1 rfl (Nat.le_of_ble_eq_true rfl) ⟨Nat.le_of_ble_eq_true rfl, Nat.le_of_ble_eq_true rfl⟩ ⟨Nat.zero_le _, Nat.zero_le _⟩ dL_areBells_398) hS (fun v0 w0 H locs hp hW hS hq => ?_)
                                            obtain ⟨rfl, rfl⟩ := hp
                                            refine lv_aload_n hx hb dL_areBells_401 rfl (lv_at hl 7 rfl) ?_
                                            refine lv_iload hx hb dL_areBells_402 (lv_at hl 8 rfl) ?_
                                            refine lv_iconst (v := 5) hx hb dL_areBells_404 (by decide) ?_
                                            obtain ⟨r1115, Mw1116, h1117, h⟩ := bind2 h
                                            refine cBackC C.2.2.2.2.2.2.2.2 (runVU (As := [.int (z), .int (5)]) (rest := [.int (r1112)]) C hW hS (c_X10_bell l g Mw1113 z 5 _ _ h1117) kV_X10_bell ml_L_26 (by decide) tm_BF rfl rfl rfl hl.1 rfl (Nat.le_of_ble_eq_true rfl) ⟨Nat.le_of_ble_eq_true rfl, Nat.le_of_ble_eq_true rfl⟩ ⟨Nat.zero_le _, Nat.zero_le _⟩ dL_areBells_405) hS (fun v0 w0 H locs hp hW hS hq => ?_)
                                            obtain ⟨rfl, rfl⟩ := hp
                                            refine lv_isub hx hb dL_areBells_408 ?_
                                            refine lv_aload_n hx hb dL_areBells_409 rfl (lv_at hl 7 rfl) ?_
                                            refine lv_iload hx hb dL_areBells_410 (lv_at hl 0 rfl) ?_
                                            refine lv_iconst (v := 2) hx hb dL_areBells_412 (by decide) ?_
                                            obtain ⟨r1118, Mw1119, h1120, h⟩ := bind2 h
                                            refine cBackC C.2.2.2.2.2.2.2.2 (runVU (As := [.int (r1087), .int (2)]) (rest := [.int ((r1112) - (r1115))]) C hW hS (c_X10_orderOf l g Mw1116 r1087 2 _ _ h1120) kV_X10_orderOf ml_L_29 (by decide) tm_BF rfl rfl rfl hl.1 rfl (Nat.le_of_ble_eq_true rfl) ⟨Nat.le_of_ble_eq_true rfl, Nat.le_of_ble_eq_true rfl⟩ ⟨Nat.zero_le _, Nat.zero_le _⟩ dL_areBells_413) hS (fun v0 w0 H locs hp hW hS hq => ?_)
                                            obtain ⟨rfl, rfl⟩ := hp
                                            refine lv_icmp_gt (tgt := 423) hx hb dL_areBells_416 (by decide) (fun c1121 => ?_) (fun c1121 => ?_)
                                            · rw [if_pos c1121] at h
                                              refine lv_iconst (v := 0) hx hb dL_areBells_423 (by decide) ?_
                                              cases h
                                            · rw [if_neg c1121] at h
                                              refine lv_iconst (v := 1) hx hb dL_areBells_419 (by decide) ?_
                                              refine lv_goto (tgt := 424) hx hb dL_areBells_420 (by decide) ?_
                                              refine lv_istore (lv' := [(4, .int (1)), (8, .int (r1087)), (7, .int (r1030)), (3, .int (x1029)), (2, .int (x1028)), (1, .int (x1027)), (6, .int (r1024)), (0, rf g (0)), (5, .int (z))]) hx hb dL_areBells_424 hl (by decide) rfl (fun ls hl => ?_)
                                              refine lv_iinc (v := z + 1) (lv' := [(5, .int (z + 1)), (4, .int (1)), (8, .int (r1087)), (7, .int (r1030)), (3, .int (x1029)), (2, .int (x1028)), (1, .int (x1027)), (6, .int (r1024)), (0, rf g (0))]) hx hb dL_areBells_426 hl (k := 8) rfl rfl (by decide) rfl (fun ls hl => ?_)
                                              refine lv_goto (tgt := 12) hx hb dL_areBells_429 (by decide) ?_
                                              exact ih Mw1119 x1027 x1028 x1029 (z + 1) h _ _ hW hS ls (lv_sub hl [8, 6, 5, 4, 1, 0] rfl)
                    · rw [if_pos c1054] at h
                      refine lv_iload hx hb dL_areBells_185 (lv_at hl 0 rfl) ?_
                      refine lv_if_eq (tgt := 213) hx hb dL_areBells_187 (by decide) (fun c1122 => ?_) (fun c1122 => ?_)
                      · rw [if_pos c1122] at h
                        cases h
                      · rw [if_neg c1122] at h
                        refine lv_iload hx hb dL_areBells_190 (lv_at hl 1 rfl) ?_
                        refine lv_bipush (v := -4) hx hb dL_areBells_192 (by decide) ?_
                        refine lv_icmp_ne (tgt := 213) hx hb dL_areBells_194 (by decide) (fun c1123 => ?_) (fun c1123 => ?_)
                        · rw [if_neg c1123] at h
                          refine lv_iconst (v := 0) hx hb dL_areBells_213 (by decide) ?_
                          cases h
                        · rw [if_pos c1123] at h
                          refine lv_aload_n hx hb dL_areBells_197 rfl (lv_at hl 6 rfl) ?_
                          refine lv_iload hx hb dL_areBells_198 (lv_at hl 7 rfl) ?_
                          refine lv_iconst (v := 3) hx hb dL_areBells_200 (by decide) ?_
                          obtain ⟨r1124, Mw1125, h1126, h⟩ := bind2 h
                          refine cBackC C.2.2.2.2.2.2.2.2 (runVU (As := [.int (z), .int (3)]) (rest := []) C hW hS (c_X10_bell l g Mw1051 z 3 _ _ h1126) kV_X10_bell ml_L_26 (by decide) tm_BF rfl rfl rfl hl.1 rfl (Nat.le_of_ble_eq_true rfl) ⟨Nat.le_of_ble_eq_true rfl, Nat.le_of_ble_eq_true rfl⟩ ⟨Nat.zero_le _, Nat.zero_le _⟩ dL_areBells_201) hS (fun v0 w0 H locs hp hW hS hq => ?_)
                          obtain ⟨rfl, rfl⟩ := hp
                          refine lv_bipush (v := -4) hx hb dL_areBells_204 (by decide) ?_
                          refine lv_icmp_ne (tgt := 213) hx hb dL_areBells_206 (by decide) (fun c1127 => ?_) (fun c1127 => ?_)
                          · rw [if_neg c1127] at h
                            refine lv_iconst (v := 0) hx hb dL_areBells_213 (by decide) ?_
                            cases h
                          · rw [if_pos c1127] at h
                            refine lv_iconst (v := 1) hx hb dL_areBells_209 (by decide) ?_
                            refine lv_goto (tgt := 214) hx hb dL_areBells_210 (by decide) ?_
                            refine lv_istore (lv' := [(4, .int (1)), (7, .int (r1030)), (3, .int (x1029)), (2, .int (x1028)), (1, .int (x1027)), (6, .int (r1024)), (0, rf g (0)), (5, .int (z))]) hx hb dL_areBells_214 hl (by decide) rfl (fun ls hl => ?_)
                            refine lv_goto (tgt := 320) hx hb dL_areBells_216 (by decide) ?_
                            refine lv_iload hx hb dL_areBells_320 (lv_at hl 5 rfl) ?_
                            refine lv_iconst (v := 2) hx hb dL_areBells_322 (by decide) ?_
                            refine lv_icmp_ne (tgt := 426) hx hb dL_areBells_323 (by decide) (fun c1128 => ?_) (fun c1128 => ?_)
                            · rw [if_neg c1128] at h
                              refine lv_iinc (v := z + 1) (lv' := [(5, .int (z + 1)), (4, .int (1)), (7, .int (r1030)), (3, .int (x1029)), (2, .int (x1028)), (1, .int (x1027)), (6, .int (r1024)), (0, rf g (0))]) hx hb dL_areBells_426 hl (k := 7) rfl rfl (by decide) rfl (fun ls hl => ?_)
                              refine lv_goto (tgt := 12) hx hb dL_areBells_429 (by decide) ?_
                              exact ih Mw1125 x1027 x1028 x1029 (z + 1) h _ _ hW hS ls (lv_sub hl [7, 5, 4, 3, 1, 0] rfl)
                            · rw [if_pos c1128] at h
                              refine lv_aload_n hx hb dL_areBells_326 rfl (lv_at hl 6 rfl) ?_
                              refine lv_iload hx hb dL_areBells_327 (lv_at hl 7 rfl) ?_
                              refine lv_bipush (v := 9) hx hb dL_areBells_329 (by decide) ?_
                              obtain ⟨r1129, Mw1130, h1131, h⟩ := bind2 h
                              refine cBackC C.2.2.2.2.2.2.2.2 (runVU (As := [.int (z), .int (9)]) (rest := []) C hW hS (c_X10_bell l g Mw1125 z 9 _ _ h1131) kV_X10_bell ml_L_26 (by decide) tm_BF rfl rfl rfl hl.1 rfl (Nat.le_of_ble_eq_true rfl) ⟨Nat.le_of_ble_eq_true rfl, Nat.le_of_ble_eq_true rfl⟩ ⟨Nat.zero_le _, Nat.zero_le _⟩ dL_areBells_331) hS (fun v0 w0 H locs hp hW hS hq => ?_)
                              obtain ⟨rfl, rfl⟩ := hp
                              refine lv_istore (lv' := [(8, .int (r1129)), (4, .int (1)), (7, .int (r1030)), (3, .int (x1029)), (2, .int (x1028)), (1, .int (x1027)), (6, .int (r1024)), (0, rf g (0)), (5, .int (z))]) hx hb dL_areBells_334 hl (by decide) rfl (fun ls hl => ?_)
                              refine lv_iload hx hb dL_areBells_336 (lv_at hl 1 rfl) ?_
                              refine lv_if_eq (tgt := 423) hx hb dL_areBells_338 (by decide) (fun c1132 => ?_) (fun c1132 => ?_)
                              · rw [if_pos c1132] at h
                                cases h
                              · rw [if_neg c1132] at h
                                refine lv_aload_n hx hb dL_areBells_341 rfl (lv_at hl 7 rfl) ?_
                                refine lv_iload hx hb dL_areBells_342 (lv_at hl 0 rfl) ?_
                                refine lv_iconst (v := 3) hx hb dL_areBells_344 (by decide) ?_
                                obtain ⟨r1133, Mw1134, h1135, h⟩ := bind2 h
                                refine cBackC C.2.2.2.2.2.2.2.2 (runVU (As := [.int (r1129), .int (3)]) (rest := []) C hW hS (c_X10_orderOf l g Mw1130 r1129 3 _ _ h1135) kV_X10_orderOf ml_L_29 (by decide) tm_BF rfl rfl rfl hl.1 rfl (Nat.le_of_ble_eq_true rfl) ⟨Nat.le_of_ble_eq_true rfl, Nat.le_of_ble_eq_true rfl⟩ ⟨Nat.zero_le _, Nat.zero_le _⟩ dL_areBells_345) hS (fun v0 w0 H locs hp hW hS hq => ?_)
                                obtain ⟨rfl, rfl⟩ := hp
                                refine lv_iconst (v := 1) hx hb dL_areBells_348 (by decide) ?_
                                refine lv_icmp_ne (tgt := 423) hx hb dL_areBells_349 (by decide) (fun c1136 => ?_) (fun c1136 => ?_)
                                · rw [if_neg c1136] at h
                                  refine lv_iconst (v := 0) hx hb dL_areBells_423 (by decide) ?_
                                  cases h
                                · rw [if_pos c1136] at h
                                  refine lv_aload_n hx hb dL_areBells_352 rfl (lv_at hl 7 rfl) ?_
                                  refine lv_iload hx hb dL_areBells_353 (lv_at hl 0 rfl) ?_
                                  refine lv_iconst (v := 0) hx hb dL_areBells_355 (by decide) ?_
                                  obtain ⟨r1137, Mw1138, h1139, h⟩ := bind2 h
                                  refine cBackC C.2.2.2.2.2.2.2.2 (runVU (As := [.int (r1129), .int (0)]) (rest := []) C hW hS (c_X10_orderOf l g Mw1134 r1129 0 _ _ h1139) kV_X10_orderOf ml_L_29 (by decide) tm_BF rfl rfl rfl hl.1 rfl (Nat.le_of_ble_eq_true rfl) ⟨Nat.le_of_ble_eq_true rfl, Nat.le_of_ble_eq_true rfl⟩ ⟨Nat.zero_le _, Nat.zero_le _⟩ dL_areBells_356) hS (fun v0 w0 H locs hp hW hS hq => ?_)
                                  obtain ⟨rfl, rfl⟩ := hp
                                  refine lv_aload_n hx hb dL_areBells_359 rfl (lv_at hl 7 rfl) ?_
                                  refine lv_iload hx hb dL_areBells_360 (lv_at hl 8 rfl) ?_
                                  refine lv_iconst (v := 4) hx hb dL_areBells_362 (by decide) ?_
                                  obtain ⟨r1140, Mw1141, h1142, h⟩ := bind2 h
                                  refine cBackC C.2.2.2.2.2.2.2.2 (runVU (As := [.int (z), .int (4)]) (rest := [.int (r1137)]) C hW hS (c_X10_bell l g Mw1138 z 4 _ _ h1142) kV_X10_bell ml_L_26 (by decide) tm_BF rfl rfl rfl hl.1 rfl (Nat.le_of_ble_eq_true rfl) ⟨Nat.le_of_ble_eq_true rfl, Nat.le_of_ble_eq_true rfl⟩ ⟨Nat.zero_le _, Nat.zero_le _⟩ dL_areBells_363) hS (fun v0 w0 H locs hp hW hS hq => ?_)
                                  obtain ⟨rfl, rfl⟩ := hp
                                  refine lv_icmp_ne (tgt := 423) hx hb dL_areBells_366 (by decide) (fun c1143 => ?_) (fun c1143 => ?_)
                                  · rw [if_neg c1143] at h
                                    refine lv_iconst (v := 0) hx hb dL_areBells_423 (by decide) ?_
                                    cases h
                                  · rw [if_pos c1143] at h
                                    refine lv_aload_n hx hb dL_areBells_369 rfl (lv_at hl 7 rfl) ?_
                                    refine lv_iload hx hb dL_areBells_370 (lv_at hl 8 rfl) ?_
                                    refine lv_iconst (v := 5) hx hb dL_areBells_372 (by decide) ?_
                                    obtain ⟨r1144, Mw1145, h1146, h⟩ := bind2 h
                                    refine cBackC C.2.2.2.2.2.2.2.2 (runVU (As := [.int (z), .int (5)]) (rest := []) C hW hS (c_X10_bell l g Mw1141 z 5 _ _ h1146) kV_X10_bell ml_L_26 (by decide) tm_BF rfl rfl rfl hl.1 rfl (Nat.le_of_ble_eq_true rfl) ⟨Nat.le_of_ble_eq_true rfl, Nat.le_of_ble_eq_true rfl⟩ ⟨Nat.zero_le _, Nat.zero_le _⟩ dL_areBells_373) hS (fun v0 w0 H locs hp hW hS hq => ?_)
                                    obtain ⟨rfl, rfl⟩ := hp
                                    refine lv_aload_n hx hb dL_areBells_376 rfl (lv_at hl 7 rfl) ?_
                                    refine lv_iload hx hb dL_areBells_377 (lv_at hl 0 rfl) ?_
                                    refine lv_iconst (v := 1) hx hb dL_areBells_379 (by decide) ?_
                                    obtain ⟨r1147, Mw1148, h1149, h⟩ := bind2 h
                                    refine cBackC C.2.2.2.2.2.2.2.2 (runVU (As := [.int (r1129), .int (1)]) (rest := [.int (r1144)]) C hW hS (c_X10_orderOf l g Mw1145 r1129 1 _ _ h1149) kV_X10_orderOf ml_L_29 (by decide) tm_BF rfl rfl rfl hl.1 rfl (Nat.le_of_ble_eq_true rfl) ⟨Nat.le_of_ble_eq_true rfl, Nat.le_of_ble_eq_true rfl⟩ ⟨Nat.zero_le _, Nat.zero_le _⟩ dL_areBells_380) hS (fun v0 w0 H locs hp hW hS hq => ?_)
                                    obtain ⟨rfl, rfl⟩ := hp
                                    refine lv_isub hx hb dL_areBells_383 ?_
                                    refine lv_aload_n hx hb dL_areBells_384 rfl (lv_at hl 7 rfl) ?_
                                    refine lv_iload hx hb dL_areBells_385 (lv_at hl 0 rfl) ?_
                                    refine lv_iconst (v := 2) hx hb dL_areBells_387 (by decide) ?_
                                    obtain ⟨r1150, Mw1151, h1152, h⟩ := bind2 h
                                    refine cBackC C.2.2.2.2.2.2.2.2 (runVU (As := [.int (r1129), .int (2)]) (rest := [.int ((r1144) - (r1147))]) C hW hS (c_X10_orderOf l g Mw1148 r1129 2 _ _ h1152) kV_X10_orderOf ml_L_29 (by decide) tm_BF rfl rfl rfl hl.1 rfl (Nat.le_of_ble_eq_true rfl) ⟨Nat.le_of_ble_eq_true rfl, Nat.le_of_ble_eq_true rfl⟩ ⟨Nat.zero_le _, Nat.zero_le _⟩ dL_areBells_388) hS (fun v0 w0 H locs hp hW hS hq => ?_)
                                    obtain ⟨rfl, rfl⟩ := hp
                                    refine lv_icmp_gt (tgt := 423) hx hb dL_areBells_391 (by decide) (fun c1153 => ?_) (fun c1153 => ?_)
                                    · rw [if_pos c1153] at h
                                      refine lv_iconst (v := 0) hx hb dL_areBells_423 (by decide) ?_
                                      cases h
                                    · rw [if_neg c1153] at h
                                      refine lv_aload_n hx hb dL_areBells_394 rfl (lv_at hl 7 rfl) ?_
                                      refine lv_iload hx hb dL_areBells_395 (lv_at hl 0 rfl) ?_
                                      refine lv_iconst (v := 1) hx hb dL_areBells_397 (by decide) ?_
                                      obtain ⟨r1154, Mw1155, h1156, h⟩ := bind2 h
                                      refine cBackC C.2.2.2.2.2.2.2.2 (runVU (As := [.int (r1129), .int (1)]) (rest := []) C hW hS (c_X10_orderOf l g Mw1151 r1129 1 _ _ h1156) kV_X10_orderOf ml_L_29 (by decide) tm_BF rfl rfl rfl hl.1 rfl (Nat.le_of_ble_eq_true rfl) ⟨Nat.le_of_ble_eq_true rfl, Nat.le_of_ble_eq_true rfl⟩ ⟨Nat.zero_le _, Nat.zero_le _⟩ dL_areBells_398) hS (fun v0 w0 H locs hp hW hS hq => ?_)
                                      obtain ⟨rfl, rfl⟩ := hp
                                      refine lv_aload_n hx hb dL_areBells_401 rfl (lv_at hl 7 rfl) ?_
                                      refine lv_iload hx hb dL_areBells_402 (lv_at hl 8 rfl) ?_
                                      refine lv_iconst (v := 5) hx hb dL_areBells_404 (by decide) ?_
                                      obtain ⟨r1157, Mw1158, h1159, h⟩ := bind2 h
                                      refine cBackC C.2.2.2.2.2.2.2.2 (runVU (As := [.int (z), .int (5)]) (rest := [.int (r1154)]) C hW hS (c_X10_bell l g Mw1155 z 5 _ _ h1159) kV_X10_bell ml_L_26 (by decide) tm_BF rfl rfl rfl hl.1 rfl (Nat.le_of_ble_eq_true rfl) ⟨Nat.le_of_ble_eq_true rfl, Nat.le_of_ble_eq_true rfl⟩ ⟨Nat.zero_le _, Nat.zero_le _⟩ dL_areBells_405) hS (fun v0 w0 H locs hp hW hS hq => ?_)
                                      obtain ⟨rfl, rfl⟩ := hp
                                      refine lv_isub hx hb dL_areBells_408 ?_
                                      refine lv_aload_n hx hb dL_areBells_409 rfl (lv_at hl 7 rfl) ?_
                                      refine lv_iload hx hb dL_areBells_410 (lv_at hl 0 rfl) ?_
                                      refine lv_iconst (v := 2) hx hb dL_areBells_412 (by decide) ?_
                                      obtain ⟨r1160, Mw1161, h1162, h⟩ := bind2 h
                                      refine cBackC C.2.2.2.2.2.2.2.2 (runVU (As := [.int (r1129), .int (2)]) (rest := [.int ((r1154) - (r1157))]) C hW hS (c_X10_orderOf l g Mw1158 r1129 2 _ _ h1162) kV_X10_orderOf ml_L_29 (by decide) tm_BF rfl rfl rfl hl.1 rfl (Nat.le_of_ble_eq_true rfl) ⟨Nat.le_of_ble_eq_true rfl, Nat.le_of_ble_eq_true rfl⟩ ⟨Nat.zero_le _, Nat.zero_le _⟩ dL_areBells_413) hS (fun v0 w0 H locs hp hW hS hq => ?_)
                                      obtain ⟨rfl, rfl⟩ := hp
                                      refine lv_icmp_gt (tgt := 423) hx hb dL_areBells_416 (by decide) (fun c1163 => ?_) (fun c1163 => ?_)
                                      · rw [if_pos c1163] at h
                                        refine lv_iconst (v := 0) hx hb dL_areBells_423 (by decide) ?_
                                        cases h
                                      · rw [if_neg c1163] at h
                                        refine lv_iconst (v := 1) hx hb dL_areBells_419 (by decide) ?_
                                        refine lv_goto (tgt := 424) hx hb dL_areBells_420 (by decide) ?_
                                        refine lv_istore (lv' := [(4, .int (1)), (8, .int (r1129)), (7, .int (r1030)), (3, .int (x1029)), (2, .int (x1028)), (1, .int (x1027)), (6, .int (r1024)), (0, rf g (0)), (5, .int (z))]) hx hb dL_areBells_424 hl (by decide) rfl (fun ls hl => ?_)
                                        refine lv_iinc (v := z + 1) (lv' := [(5, .int (z + 1)), (4, .int (1)), (8, .int (r1129)), (7, .int (r1030)), (3, .int (x1029)), (2, .int (x1028)), (1, .int (x1027)), (6, .int (r1024)), (0, rf g (0))]) hx hb dL_areBells_426 hl (k := 8) rfl rfl (by decide) rfl (fun ls hl => ?_)
                                        refine lv_goto (tgt := 12) hx hb dL_areBells_429 (by decide) ?_
                                        exact ih Mw1161 x1027 x1028 x1029 (z + 1) h _ _ hW hS ls (lv_sub hl [8, 6, 5, 4, 1, 0] rfl)
set_option maxHeartbeats 4000000 in
set_option maxRecDepth 100000 in
theorem c_L_areBells (l : Launch) (g : GD) (M : MM)  (r : Int32) (M2 : MM) (h : f_L_areBells M  = some (r, M2)) : Met l yL_areBells (wm yL_areBells cL_areBells 9 (some .boolean)) (RM 5 128) (va_Pc [rf g (0)] (WDp g M)) (QU g (fun v w0 => v = .int r ∧ M2 = w0)) 0 0 (AU g) := by
  refine mkU (by decide +kernel) (Nat.le_of_ble_eq_true rfl) ?_
  intro p e s m below meth c C hr hlk hW hS ls hl
  have hl : lv_has ls 9 [(0, rf g (0))] := hl
  have hx := C.1
  have hb := C.2.1
  have hts := C.2.2.2.2.1
  unfold f_L_areBells at h
  refine lv_iconst (v := 0) hx hb dL_areBells_0 (by decide) ?_
  refine lv_istore_n (lv' := [(1, .int (0)), (0, rf g (0))]) hx hb dL_areBells_1 rfl hl (by decide) rfl (fun ls hl => ?_)
  refine lv_iconst (v := 0) hx hb dL_areBells_2 (by decide) ?_
  refine lv_istore_n (lv' := [(2, .int (0)), (1, .int (0)), (0, rf g (0))]) hx hb dL_areBells_3 rfl hl (by decide) rfl (fun ls hl => ?_)
  refine lv_iconst (v := 0) hx hb dL_areBells_4 (by decide) ?_
  refine lv_istore_n (lv' := [(3, .int (0)), (2, .int (0)), (1, .int (0)), (0, rf g (0))]) hx hb dL_areBells_5 rfl hl (by decide) rfl (fun ls hl => ?_)
  refine lv_iconst (v := 1) hx hb dL_areBells_6 (by decide) ?_
  refine lv_istore (lv' := [(4, .int (1)), (3, .int (0)), (2, .int (0)), (1, .int (0)), (0, rf g (0))]) hx hb dL_areBells_7 hl (by decide) rfl (fun ls hl => ?_)
  refine lv_iconst (v := 0) hx hb dL_areBells_9 (by decide) ?_
  refine lv_istore (lv' := [(5, .int (0)), (4, .int (1)), (3, .int (0)), (2, .int (0)), (1, .int (0)), (0, rf g (0))]) hx hb dL_areBells_10 hl (by decide) rfl (fun ls hl => ?_)
  exact t_L_areBells_12 l g FU M 0 0 0 0 _ _ h C hr hlk _ _ hW hS ls (lv_sub hl [5, 4, 3, 2, 1, 0] rfl)
