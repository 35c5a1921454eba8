def lp_L_areMetals_254 (fu : Nat) (M : MM) (x : Int32) (u : Int32) (z : Int32) : Option (Int32 × MM) := match fu with
  | 0 => none
  | n + 1 => (if (7 : Int32) ≤ (z : Int32) then some (u, M) else (bnd2 (f_X10_account M x z) fun r4002 Mw4003 => (if (1 : Int32) = 0 then none else (bnd2 (f_X10_account Mw4003 x z) fun r4006 Mw4007 => (if (r4006 : Int32) < 0 then none else (lp_L_areMetals_254 n Mw4007 x ((u) + (r4002)) (z + 1)))))))
def lp_L_areMetals_176 (fu : Nat) (M : MM) (x : Int32) (u : Int32) (v : Int32) (z : Int32) : Option (Int32 × Int32 × MM) := match fu with
  | 0 => none
  | n + 1 => (bnd2 (f_X10_count M 1) fun r3001 Mw3002 => (if (r3001 : Int32) ≤ (z : Int32) then some (u, v, Mw3002) else (bnd2 (f_X10_bell Mw3002 z 8) fun r3005 Mw3006 => (if (2 : Int32) ≤ (r3005 : Int32) then (bnd2 (f_X10_bell Mw3006 z 8) fun r3009 Mw3010 => (if (r3009 : Int32) = (2 : Int32) then (bnd2 (f_X10_bell Mw3010 z x) fun r3013 Mw3014 => (lp_L_areMetals_176 n Mw3014 x ((u) + (0)) ((v) + (r3013)) (z + 1))) else (lp_L_areMetals_176 n Mw3010 x ((u) + (0)) ((v) + (0)) (z + 1)))) else (bnd2 (f_X10_bell Mw3006 z x) fun r3016 Mw3017 => (bnd2 (f_X10_bell Mw3017 z 8) fun r3019 Mw3020 => (if (r3019 : Int32) = (2 : Int32) then (bnd2 (f_X10_bell Mw3020 z x) fun r3023 Mw3024 => (lp_L_areMetals_176 n Mw3024 x ((u) + (r3016)) ((v) + (r3023)) (z + 1))) else (lp_L_areMetals_176 n Mw3020 x ((u) + (r3016)) ((v) + (0)) (z + 1)))))))))
def lp_L_areMetals_81 (fu : Nat) (M : MM) (x : Int32) (u : Int32) (z : Int32) : Option (Int32 × MM) := match fu with
  | 0 => none
  | n + 1 => (bnd2 (f_X10_count M 0) fun r2001 Mw2002 => (if (r2001 : Int32) ≤ (z : Int32) then some (u, Mw2002) else (bnd2 (f_X10_lot Mw2002 z x) fun r2005 Mw2006 => (if (1 : Int32) = 0 then none else (bnd2 (f_X10_lot Mw2006 z 2) fun r2009 Mw2010 => (if (r2009 : Int32) ≤ 0 then none else (bnd2 (f_X10_lot Mw2010 z 0) fun r2013 Mw2014 => (bnd2 (f_X10_lot Mw2014 z 1) fun r2016 Mw2017 => (bnd2 (f_X10_lot Mw2017 z 2) fun r2019 Mw2020 => (if ((r2013) + (r2016) : Int32) = (r2019 : Int32) then (bnd2 (f_X10_lot Mw2020 z 4) fun r2023 Mw2024 => (if (r2023 : Int32) < 0 then none else (bnd2 (f_X10_lot Mw2024 z 4) fun r2027 Mw2028 => (if (3 : Int32) ≤ (r2027 : Int32) then none else (lp_L_areMetals_81 n Mw2028 x ((u) + (r2005)) (z + 1)))))) else none))))))))))
def lp_L_areMetals_61 (fu : Nat) (M : MM) (z : Int32) : Option (Int32 × MM) := match fu with
  | 0 => none
  | n + 1 => (if (2 : Int32) ≤ (z : Int32) then some (1, M) else (if (1 : Int32) = 0 then none else (bnd2 (lp_L_areMetals_81 FU M z 0 0) fun y1003 Mw1004 => (bnd3 (lp_L_areMetals_176 FU Mw1004 z 0 0 0) fun y1006 y1007 Mw1008 => (bnd2 (lp_L_areMetals_254 FU Mw1008 z 0 1) fun y1010 Mw1011 => (if (1 : Int32) = 0 then none else (bnd2 (f_X10_account Mw1011 z 0) fun r1014 Mw1015 => (if (r1014 : Int32) = (y1010 : Int32) then (bnd2 (f_X10_account Mw1015 z 2) fun r1018 Mw1019 => (bnd2 (f_X10_melt Mw1019 z) fun r1021 Mw1022 => (if (r1018 : Int32) = (r1021 : Int32) then (bnd2 (f_X10_account Mw1022 z 3) fun r1025 Mw1026 => (if (r1025 : Int32) = (y1003 : Int32) then (bnd2 (f_X10_account Mw1026 z 4) fun r1029 Mw1030 => (if (r1029 : Int32) = (y1006 : Int32) then (bnd2 (f_X10_account Mw1030 z 5) fun r1033 Mw1034 => (if (r1033 : Int32) = (y1007 : Int32) then (lp_L_areMetals_61 n Mw1034 (z + 1)) else none)) else none)) else none)) else none))) else none))))))))
def f_L_areMetals (M : MM)  : Option (Int32 × MM) := (bnd2 (f_X10_melt M 2) fun r1 Mw2 => (bnd2 (f_X10_melt Mw2 0) fun r4 Mw5 => (bnd2 (f_X10_melt Mw5 1) fun r7 Mw8 => (if (r1 : Int32) = ((r4) + (r7) : Int32) then (bnd2 (f_X10_melt Mw8 4) fun r11 Mw12 => (bnd2 (f_X10_melt Mw12 2) fun r14 Mw15 => (if (r14 : Int32) < (r11 : Int32) then none else (bnd2 (f_X10_melt Mw15 2) fun r18 Mw19 => (if (20000 : Int32) < (r18 : Int32) then none else (bnd2 (f_X10_count Mw19 0) fun r22 Mw23 => (if (12 : Int32) < (r22 : Int32) then none else (lp_L_areMetals_61 FU Mw23 0)))))))) else none))))
set_option maxHeartbeats 4000000 in
set_option maxRecDepth 100000 in
theorem t_L_areMetals_254 (l : Launch) (g : GD) (q : Int32) (q1 : Int32) (q2 : Int32) {p : Program} {e : Env} {s : State} {m : MethodId} {av : Array Value} {below : List Frame} {meth : Method} {c : Code} {Q : State → Prop} (n : Nat) : ∀ (M : MM) (x : Int32) (u : Int32) (z : Int32) (o0 : Int32) (M2 : MM), lp_L_areMetals_254 n M x u z = some (o0, M2) → CX p s m av c cL_areMetals 8 RL g → ∀ (H : Heap) (locs : List Loc), Wd g M H → sU g s H locs → ∀ ls : Array Slot, lv_has ls 8 [(0, rf g (0)), (1, .int (1)), (2, .int (x)), (3, .int (q)), (4, .int (q1)), (5, .int (q2)), (6, .int (u)), (7, .int (z))] → (∀ (H : Heap) (locs : List Loc), Wd g M2 H → sU g s H locs → ∀ ls : Array Slot, lv_has ls 8 [(0, rf g (0)), (1, .int (1)), (2, .int (x)), (3, .int (q)), (4, .int (q1)), (5, .int (q2)), (6, .int (o0))] → W p l e (RM 4 85) s m av below meth c H locs 0 0 Q (F0 m 299 ls [])) → W p l e (RM 4 85) s m av below meth c H locs 0 0 Q (F0 m 254 ls []) := by
  induction n with
  | zero => intro M x u z o0 M2 h; cases h
  | succ n ih0 =>
    intro M x u z o0 M2 h C H locs hW hS ls hl kx
    have ih : ∀ (M : MM) (x : Int32) (u : Int32) (z : Int32), lp_L_areMetals_254 n M x u z = some (o0, M2) → ∀ (H : Heap) (locs : List Loc), Wd g M H → sU g s H locs → ∀ ls : Array Slot, lv_has ls 8 [(0, rf g (0)), (1, .int (1)), (2, .int (x)), (3, .int (q)), (4, .int (q1)), (5, .int (q2)), (6, .int (u)), (7, .int (z))] → (∀ (H : Heap) (locs : List Loc), Wd g M2 H → sU g s H locs → ∀ ls : Array Slot, lv_has ls 8 [(0, rf g (0)), (1, .int (1)), (2, .int (x)), (3, .int (q)), (4, .int (q1)), (5, .int (q2)), (6, .int (o0))] → W p l e (RM 4 85) s m av below meth c H locs 0 0 Q (F0 m 299 ls [])) → W p l e (RM 4 85) s m av below meth c H locs 0 0 Q (F0 m 254 ls []) := fun M x u z h H locs hW hS ls hl kx => ih0 M x u z o0 M2 h C H locs hW hS ls hl kx
    unfold lp_L_areMetals_254 at h
    try dsimp only at h
    have hx := C.1
    have hb := C.2.1
    have hts := C.2.2.2.2.1
    refine lv_iload hx hb dL_areMetals_254 (lv_at hl 7 rfl) ?_
    refine lv_bipush (v := 7) hx hb dL_areMetals_256 (by decide) ?_
    refine lv_icmp_ge (tgt := 299) hx hb dL_areMetals_258 (by decide) (fun c4001 => ?_) (fun c4001 => ?_)
    · rw [if_pos c4001] at h
      cases h
      exact kx _ _ hW hS ls (lv_sub hl [0, 1, 2, 3, 4, 5, 6] rfl)
    · rw [if_neg c4001] at h
      refine lv_iload hx hb dL_areMetals_261 (lv_at hl 6 rfl) ?_
      refine lv_aload_n hx hb dL_areMetals_263 rfl (lv_at hl 0 rfl) ?_
      refine lv_iload_n hx hb dL_areMetals_264 rfl (lv_at hl 2 rfl) ?_
      refine lv_iload hx hb dL_areMetals_265 (lv_at hl 7 rfl) ?_
      obtain ⟨r4002, Mw4003, h4004, h⟩ := bind2 h
      refine cBackC C.2.2.2.2.2.2.2.2 (runVU (As := [.int (x), .int (z)]) (rest := [.int (u)]) C hW hS (c_X10_account l g M x z _ _ h4004) kV_X10_account ml_L_19 (by decide) tm_BF rfl rfl rfl hl.1 rfl (Nat.le_of_ble_eq_true rfl) ⟨Nat.le_of_ble_eq_true rfl, Nat.le_of_ble_eq_true rfl⟩ ⟨Nat.zero_le _, Nat.zero_le _⟩ dL_areMetals_267) hS (fun v0 w0 H locs hp hW hS hq => ?_)
      obtain ⟨rfl, rfl⟩ := hp
      refine lv_iadd hx hb dL_areMetals_270 ?_
      refine lv_istore (lv' := [(6, .int ((u) + (r4002))), (0, rf g (0)), (1, .int (1)), (2, .int (x)), (3, .int (q)), (4, .int (q1)), (5, .int (q2)), (7, .int (z))]) hx hb dL_areMetals_271 hl (by decide) rfl (fun ls hl => ?_)
      refine lv_iload_n hx hb dL_areMetals_273 rfl (lv_at hl 2 rfl) ?_
      refine lv_if_eq (tgt := 291) hx hb dL_areMetals_274 (by decide) (fun c4005 => ?_) (fun c4005 => ?_)
      · rw [if_pos c4005] at h
        cases h
      · rw [if_neg c4005] at h
        refine lv_aload_n hx hb dL_areMetals_277 rfl (lv_at hl 1 rfl) ?_
        refine lv_iload_n hx hb dL_areMetals_278 rfl (lv_at hl 3 rfl) ?_
        refine lv_iload hx hb dL_areMetals_279 (lv_at hl 7 rfl) ?_
        obtain ⟨r4006, Mw4007, h4008, h⟩ := bind2 h
        refine cBackC C.2.2.2.2.2.2.2.2 (runVU (As := [.int (x), .int (z)]) (rest := []) C hW hS (c_X10_account l g Mw4003 x z _ _ h4008) kV_X10_account ml_L_19 (by decide) tm_BF rfl rfl rfl hl.1 rfl (Nat.le_of_ble_eq_true rfl) ⟨Nat.le_of_ble_eq_true rfl, Nat.le_of_ble_eq_true rfl⟩ ⟨Nat.zero_le _, Nat.zero_le _⟩ dL_areMetals_281) hS (fun v0 w0 H locs hp hW hS hq => ?_)
        obtain ⟨rfl, rfl⟩ := hp
        refine lv_if_lt (tgt := 291) hx hb dL_areMetals_284 (by decide) (fun c4009 => ?_) (fun c4009 => ?_)
        · rw [if_pos c4009] at h
          refine lv_iconst (v := 0) hx hb dL_areMetals_291 (by decide) ?_
          cases h
        · rw [if_neg c4009] at h
          refine lv_iconst (v := 1) hx hb dL_areMetals_287 (by decide) ?_
          refine lv_goto (tgt := 292) hx hb dL_areMetals_288 (by decide) ?_
          refine lv_istore_n (lv' := [(1, .int (1)), (6, .int ((u) + (r4002))), (0, rf g (0)), (2, .int (x)), (3, .int (q)), (4, .int (q1)), (5, .int (q2)), (7, .int (z))]) hx hb dL_areMetals_292 rfl hl (by decide) rfl (fun ls hl => ?_)
          refine lv_iinc (v := z + 1) (lv' := [(7, .int (z + 1)), (1, .int (1)), (6, .int ((u) + (r4002))), (0, rf g (0)), (2, .int (x)), (3, .int (q)), (4, .int (q1)), (5, .int (q2))]) hx hb dL_areMetals_293 hl (k := 7) rfl rfl (by decide) rfl (fun ls hl => ?_)
          refine lv_goto (tgt := 254) hx hb dL_areMetals_296 (by decide) ?_
          exact ih Mw4007 x ((u) + (r4002)) (z + 1) h _ _ hW hS ls (lv_sub hl [3, 1, 4, 5, 6, 7, 2, 0] rfl) kx
set_option maxHeartbeats 4000000 in
set_option maxRecDepth 100000 in
theorem t_L_areMetals_176 (l : Launch) (g : GD) (q : Int32) {p : Program} {e : Env} {s : State} {m : MethodId} {av : Array Value} {below : List Frame} {meth : Method} {c : Code} {Q : State → Prop} (n : Nat) : ∀ (M : MM) (x : Int32) (u : Int32) (v : Int32) (z : Int32) (o0 : Int32) (o1 : Int32) (M2 : MM), lp_L_areMetals_176 n M x u v z = some (o0, o1, M2) → CX p s m av c cL_areMetals 8 RL g → ∀ (H : Heap) (locs : List Loc), Wd g M H → sU g s H locs → ∀ ls : Array Slot, lv_has ls 8 [(0, rf g (0)), (1, .int (1)), (2, .int (x)), (3, .int (q)), (4, .int (u)), (5, .int (v)), (6, .int (z))] → (∀ (H : Heap) (locs : List Loc), Wd g M2 H → sU g s H locs → ∀ ls : Array Slot, lv_has ls 8 [(0, rf g (0)), (1, .int (1)), (2, .int (x)), (3, .int (q)), (4, .int (o0)), (5, .int (o1))] → W p l e (RM 4 85) s m av below meth c H locs 0 0 Q (F0 m 248 ls [])) → W p l e (RM 4 85) s m av below meth c H locs 0 0 Q (F0 m 176 ls []) := by
  induction n with
  | zero => intro M x u v z o0 o1 M2 h; cases h
  | succ n ih0 =>
    intro M x u v z o0 o1 M2 h C H locs hW hS ls hl kx
    have ih : ∀ (M : MM) (x : Int32) (u : Int32) (v : Int32) (z : Int32), lp_L_areMetals_176 n M x u v z = some (o0, o1, M2) → ∀ (H : Heap) (locs : List Loc), Wd g M H → sU g s H locs → ∀ ls : Array Slot, lv_has ls 8 [(0, rf g (0)), (1, .int (1)), (2, .int (x)), (3, .int (q)), (4, .int (u)), (5, .int (v)), (6, .int (z))] → (∀ (H : Heap) (locs : List Loc), Wd g M2 H → sU g s H locs → ∀ ls : Array Slot, lv_has ls 8 [(0, rf g (0)), (1, .int (1)), (2, .int (x)), (3, .int (q)), (4, .int (o0)), (5, .int (o1))] → W p l e (RM 4 85) s m av below meth c H locs 0 0 Q (F0 m 248 ls [])) → W p l e (RM 4 85) s m av below meth c H locs 0 0 Q (F0 m 176 ls []) := fun M x u v z h H locs hW hS ls hl kx => ih0 M x u v z o0 o1 M2 h C H locs hW hS ls hl kx
    unfold lp_L_areMetals_176 at h
    try dsimp only at h
    have hx := C.1
    have hb := C.2.1
    have hts := C.2.2.2.2.1
    refine lv_iload hx hb dL_areMetals_176 (lv_at hl 6 rfl) ?_
    refine lv_aload_n hx hb dL_areMetals_178 rfl (lv_at hl 0 rfl) ?_
    refine lv_iconst (v := 1) hx hb dL_areMetals_179 (by decide) ?_
    obtain ⟨r3001, Mw3002, h3003, h⟩ := bind2 h
    refine cBackC C.2.2.2.2.2.2.2.2 (runVU (As := [.int (1)]) (rest := [.int (z)]) C hW hS (c_X10_count l g M 1 _ _ h3003) kV_X10_count ml_L_13 (by decide) tm_BF rfl rfl rfl hl.1 rfl (Nat.le_of_ble_eq_true rfl) ⟨Nat.le_of_ble_eq_true rfl, Nat.le_of_ble_eq_true rfl⟩ ⟨Nat.zero_le _, Nat.zero_le _⟩ dL_areMetals_180) hS (fun v0 w0 H locs hp hW hS hq => ?_)
    obtain ⟨rfl, rfl⟩ := hp
    refine lv_icmp_ge (tgt := 248) hx hb dL_areMetals_183 (by decide) (fun c3004 => ?_) (fun c3004 => ?_)
    · rw [if_pos c3004] at h
      cases h
      exact kx _ _ hW hS ls (lv_sub hl [0, 1, 2, 3, 4, 5] rfl)
    · rw [if_neg c3004] at h
      refine lv_iload hx hb dL_areMetals_186 (lv_at hl 4 rfl) ?_
      refine lv_aload_n hx hb dL_areMetals_188 rfl (lv_at hl 0 rfl) ?_
      refine lv_iload hx hb dL_areMetals_189 (lv_at hl 6 rfl) ?_
      refine lv_bipush (v := 8) hx hb dL_areMetals_191 (by decide) ?_
      obtain ⟨r3005, Mw3006, h3007, h⟩ := bind2 h
      refine cBackC C.2.2.2.2.2.2.2.2 (runVU (As := [.int (z), .int (8)]) (rest := [.int (u)]) C hW hS (c_X10_bell l g Mw3002 z 8 _ _ h3007) kV_X10_bell ml_L_26 (by decide) tm_BF rfl rfl rfl hl.1 rfl (Nat.le_of_ble_eq_true rfl) ⟨Nat.le_of_ble_eq_true rfl, Nat.le_of_ble_eq_true rfl⟩ ⟨Nat.zero_le _, Nat.zero_le _⟩ dL_areMetals_193) hS (fun v0 w0 H locs hp hW hS hq => ?_)
      obtain ⟨rfl, rfl⟩ := hp
      refine lv_iconst (v := 2) hx hb dL_areMetals_196 (by decide) ?_
      refine lv_icmp_ge (tgt := 210) hx hb dL_areMetals_197 (by decide) (fun c3008 => ?_) (fun c3008 => ?_)
      · rw [if_pos c3008] at h
        refine lv_iconst (v := 0) hx hb dL_areMetals_210 (by decide) ?_
        refine lv_iadd hx hb dL_areMetals_211 ?_
        refine lv_istore (lv' := [(4, .int ((u) + (0))), (0, rf g (0)), (1, .int (1)), (2, .int (x)), (3, .int (q)), (5, .int (v)), (6, .int (z))]) hx hb dL_areMetals_212 hl (by decide) rfl (fun ls hl => ?_)
        refine lv_iload hx hb dL_areMetals_214 (lv_at hl 5 rfl) ?_
        refine lv_aload_n hx hb dL_areMetals_216 rfl (lv_at hl 1 rfl) ?_
        refine lv_iload hx hb dL_areMetals_217 (lv_at hl 6 rfl) ?_
        refine lv_bipush (v := 8) hx hb dL_areMetals_219 (by decide) ?_
        obtain ⟨r3009, Mw3010, h3011, h⟩ := bind2 h
        refine cBackC C.2.2.2.2.2.2.2.2 (runVU (As := [.int (z), .int (8)]) (rest := [.int (v)]) C hW hS (c_X10_bell l g Mw3006 z 8 _ _ h3011) kV_X10_bell ml_L_26 (by decide) tm_BF rfl rfl rfl hl.1 rfl (Nat.le_of_ble_eq_true rfl) ⟨Nat.le_of_ble_eq_true rfl, Nat.le_of_ble_eq_true rfl⟩ ⟨Nat.zero_le _, Nat.zero_le _⟩ dL_areMetals_221) hS (fun v0 w0 H locs hp hW hS hq => ?_)
        obtain ⟨rfl, rfl⟩ := hp
        refine lv_iconst (v := 2) hx hb dL_areMetals_224 (by decide) ?_
        refine lv_icmp_ne (tgt := 238) hx hb dL_areMetals_225 (by decide) (fun c3012 => ?_) (fun c3012 => ?_)
        · rw [if_neg c3012] at h
          refine lv_iconst (v := 0) hx hb dL_areMetals_238 (by decide) ?_
          refine lv_iadd hx hb dL_areMetals_239 ?_
          refine lv_istore (lv' := [(5, .int ((v) + (0))), (4, .int ((u) + (0))), (0, rf g (0)), (1, .int (1)), (2, .int (x)), (3, .int (q)), (6, .int (z))]) hx hb dL_areMetals_240 hl (by decide) rfl (fun ls hl => ?_)
          refine lv_iinc (v := z + 1) (lv' := [(6, .int (z + 1)), (5, .int ((v) + (0))), (4, .int ((u) + (0))), (0, rf g (0)), (1, .int (1)), (2, .int (x)), (3, .int (q))]) hx hb dL_areMetals_242 hl (k := 6) rfl rfl (by decide) rfl (fun ls hl => ?_)
          refine lv_goto (tgt := 176) hx hb dL_areMetals_245 (by decide) ?_
          exact ih Mw3010 x ((u) + (0)) ((v) + (0)) (z + 1) h _ _ hW hS ls (lv_sub hl [3, 4, 5, 6, 2, 1, 0] rfl) kx
        · rw [if_pos c3012] at h
          refine lv_aload_n hx hb dL_areMetals_228 rfl (lv_at hl 1 rfl) ?_
          refine lv_iload hx hb dL_areMetals_229 (lv_at hl 6 rfl) ?_
          refine lv_iload_n hx hb dL_areMetals_231 rfl (lv_at hl 3 rfl) ?_
          obtain ⟨r3013, Mw3014, h3015, h⟩ := bind2 h
          refine cBackC C.2.2.2.2.2.2.2.2 (runVU (As := [.int (z), .int (x)]) (rest := [.int (v)]) C hW hS (c_X10_bell l g Mw3010 z x _ _ h3015) kV_X10_bell ml_L_26 (by decide) tm_BF rfl rfl rfl hl.1 rfl (Nat.le_of_ble_eq_true rfl) ⟨Nat.le_of_ble_eq_true rfl, Nat.le_of_ble_eq_true rfl⟩ ⟨Nat.zero_le _, Nat.zero_le _⟩ dL_areMetals_232) hS (fun v0 w0 H locs hp hW hS hq => ?_)
          obtain ⟨rfl, rfl⟩ := hp
          refine lv_goto (tgt := 239) hx hb dL_areMetals_235 (by decide) ?_
          refine lv_iadd hx hb dL_areMetals_239 ?_
          refine lv_istore (lv' := [(5, .int ((v) + (r3013))), (4, .int ((u) + (0))), (0, rf g (0)), (1, .int (1)), (2, .int (x)), (3, .int (q)), (6, .int (z))]) hx hb dL_areMetals_240 hl (by decide) rfl (fun ls hl => ?_)
          refine lv_iinc (v := z + 1) (lv' := [(6, .int (z + 1)), (5, .int ((v) + (r3013))), (4, .int ((u) + (0))), (0, rf g (0)), (1, .int (1)), (2, .int (x)), (3, .int (q))]) hx hb dL_areMetals_242 hl (k := 6) rfl rfl (by decide) rfl (fun ls hl => ?_)
          refine lv_goto (tgt := 176) hx hb dL_areMetals_245 (by decide) ?_
          exact ih Mw3014 x ((u) + (0)) ((v) + (r3013)) (z + 1) h _ _ hW hS ls (lv_sub hl [3, 4, 5, 6, 2, 1, 0] rfl) kx
      · rw [if_neg c3008] at h
        refine lv_aload_n hx hb dL_areMetals_200 rfl (lv_at hl 0 rfl) ?_
        refine lv_iload hx hb dL_areMetals_201 (lv_at hl 6 rfl) ?_
        refine lv_iload_n hx hb dL_areMetals_203 rfl (lv_at hl 2 rfl) ?_
        obtain ⟨r3016, Mw3017, h3018, h⟩ := bind2 h
        refine cBackC C.2.2.2.2.2.2.2.2 (runVU (As := [.int (z), .int (x)]) (rest := [.int (u)]) C hW hS (c_X10_bell l g Mw3006 z x _ _ h3018) kV_X10_bell ml_L_26 (by decide) tm_BF rfl rfl rfl hl.1 rfl (Nat.le_of_ble_eq_true rfl) ⟨Nat.le_of_ble_eq_true rfl, Nat.le_of_ble_eq_true rfl⟩ ⟨Nat.zero_le _, Nat.zero_le _⟩ dL_areMetals_204) hS (fun v0 w0 H locs hp hW hS hq => ?_)
        obtain ⟨rfl, rfl⟩ := hp
        refine lv_goto (tgt := 211) hx hb dL_areMetals_207 (by decide) ?_
        refine lv_iadd hx hb dL_areMetals_211 ?_
        refine lv_istore (lv' := [(4, .int ((u) + (r3016))), (0, rf g (0)), (1, .int (1)), (2, .int (x)), (3, .int (q)), (5, .int (v)), (6, .int (z))]) hx hb dL_areMetals_212 hl (by decide) rfl (fun ls hl => ?_)
        refine lv_iload hx hb dL_areMetals_214 (lv_at hl 5 rfl) ?_
        refine lv_aload_n hx hb dL_areMetals_216 rfl (lv_at hl 1 rfl) ?_
        refine lv_iload hx hb dL_areMetals_217 (lv_at hl 6 rfl) ?_
        refine lv_bipush (v := 8) hx hb dL_areMetals_219 (by decide) ?_
        obtain ⟨r3019, Mw3020, h3021, h⟩ := bind2 h
        refine cBackC C.2.2.2.2.2.2.2.2 (runVU (As := [.int (z), .int (8)]) (rest := [.int (v)]) C hW hS (c_X10_bell l g Mw3017 z 8 _ _ h3021) kV_X10_bell ml_L_26 (by decide) tm_BF rfl rfl rfl hl.1 rfl (Nat.le_of_ble_eq_true rfl) ⟨Nat.le_of_ble_eq_true rfl, Nat.le_of_ble_eq_true rfl⟩ ⟨Nat.zero_le _, Nat.zero_le _⟩ dL_areMetals_221) hS (fun v0 w0 H locs hp hW hS hq => ?_)
        obtain ⟨rfl, rfl⟩ := hp
        refine lv_iconst (v := 2) hx hb dL_areMetals_224 (by decide) ?_
        refine lv_icmp_ne (tgt := 238) hx hb dL_areMetals_225 (by decide) (fun c3022 => ?_) (fun c3022 => ?_)
        · rw [if_neg c3022] at h
          refine lv_iconst (v := 0) hx hb dL_areMetals_238 (by decide) ?_
          refine lv_iadd hx hb dL_areMetals_239 ?_
          refine lv_istore (lv' := [(5, .int ((v) + (0))), (4, .int ((u) + (r3016))), (0, rf g (0)), (1, .int (1)), (2, .int (x)), (3, .int (q)), (6, .int (z))]) hx hb dL_areMetals_240 hl (by decide) rfl (fun ls hl => ?_)
          refine lv_iinc (v := z + 1) (lv' := [(6, .int (z + 1)), (5, .int ((v) + (0))), (4, .int ((u) + (r3016))), (0, rf g (0)), (1, .int (1)), (2, .int (x)), (3, .int (q))]) hx hb dL_areMetals_242 hl (k := 6) rfl rfl (by decide) rfl (fun ls hl => ?_)
          refine lv_goto (tgt := 176) hx hb dL_areMetals_245 (by decide) ?_
          exact ih Mw3020 x ((u) + (r3016)) ((v) + (0)) (z + 1) h _ _ hW hS ls (lv_sub hl [3, 4, 5, 6, 2, 1, 0] rfl) kx
        · rw [if_pos c3022] at h
          refine lv_aload_n hx hb dL_areMetals_228 rfl (lv_at hl 1 rfl) ?_
          refine lv_iload hx hb dL_areMetals_229 (lv_at hl 6 rfl) ?_
          refine lv_iload_n hx hb dL_areMetals_231 rfl (lv_at hl 3 rfl) ?_
          obtain ⟨r3023, Mw3024, h3025, h⟩ := bind2 h
          refine cBackC C.2.2.2.2.2.2.2.2 (runVU (As := [.int (z), .int (x)]) (rest := [.int (v)]) C hW hS (c_X10_bell l g Mw3020 z x _ _ h3025) kV_X10_bell ml_L_26 (by decide) tm_BF rfl rfl rfl hl.1 rfl (Nat.le_of_ble_eq_true rfl) ⟨Nat.le_of_ble_eq_true rfl, Nat.le_of_ble_eq_true rfl⟩ ⟨Nat.zero_le _, Nat.zero_le _⟩ dL_areMetals_232) hS (fun v0 w0 H locs hp hW hS hq => ?_)
          obtain ⟨rfl, rfl⟩ := hp
          refine lv_goto (tgt := 239) hx hb dL_areMetals_235 (by decide) ?_
          refine lv_iadd hx hb dL_areMetals_239 ?_
          refine lv_istore (lv' := [(5, .int ((v) + (r3023))), (4, .int ((u) + (r3016))), (0, rf g (0)), (1, .int (1)), (2, .int (x)), (3, .int (q)), (6, .int (z))]) hx hb dL_areMetals_240 hl (by decide) rfl (fun ls hl => ?_)
          refine lv_iinc (v := z + 1) (lv' := [(6, .int (z + 1)), (5, .int ((v) + (r3023))), (4, .int ((u) + (r3016))), (0, rf g (0)), (1, .int (1)), (2, .int (x)), (3, .int (q))]) hx hb dL_areMetals_242 hl (k := 6) rfl rfl (by decide) rfl (fun ls hl => ?_)
          refine lv_goto (tgt := 176) hx hb dL_areMetals_245 (by decide) ?_
          exact ih Mw3024 x ((u) + (r3016)) ((v) + (r3023)) (z + 1) h _ _ hW hS ls (lv_sub hl [3, 4, 5, 6, 2, 1, 0] rfl) kx
set_option maxHeartbeats 4000000 in
set_option maxRecDepth 100000 in
theorem t_L_areMetals_81 (l : Launch) (g : GD)  {p : Program} {e : Env} {s : State} {m : MethodId} {av : Array Value} {below : List Frame} {meth : Method} {c : Code} {Q : State → Prop} (n : Nat) : ∀ (M : MM) (x : Int32) (u : Int32) (z : Int32) (o0 : Int32) (M2 : MM), lp_L_areMetals_81 n M x u z = some (o0, M2) → CX p s m av c cL_areMetals 8 RL g → ∀ (H : Heap) (locs : List Loc), Wd g M H → sU g s H locs → ∀ ls : Array Slot, lv_has ls 8 [(0, rf g (0)), (1, .int (1)), (2, .int (x)), (3, .int (u)), (4, .int (0)), (5, .int (0)), (6, .int (z))] → (∀ (H : Heap) (locs : List Loc), Wd g M2 H → sU g s H locs → ∀ ls : Array Slot, lv_has ls 8 [(0, rf g (0)), (1, .int (1)), (2, .int (x)), (3, .int (o0)), (4, .int (0)), (5, .int (0))] → W p l e (RM 4 85) s m av below meth c H locs 0 0 Q (F0 m 173 ls [])) → W p l e (RM 4 85) s m av below meth c H locs 0 0 Q (F0 m 81 ls []) := by
  induction n with
  | zero => intro M x u z o0 M2 h; cases h
  | succ n ih0 =>
    intro M x u z o0 M2 h C H locs hW hS ls hl kx
    have ih : ∀ (M : MM) (x : Int32) (u : Int32) (z : Int32), lp_L_areMetals_81 n M x u z = some (o0, M2) → ∀ (H : Heap) (locs : List Loc), Wd g M H → sU g s H locs → ∀ ls : Array Slot, lv_has ls 8 [(0, rf g (0)), (1, .int (1)), (2, .int (x)), (3, .int (u)), (4, .int (0)), (5, .int (0)), (6, .int (z))] → (∀ (H : Heap) (locs : List Loc), Wd g M2 H → sU g s H locs → ∀ ls : Array Slot, lv_has ls 8 [(0, rf g (0)), (1, .int (1)), (2, .int (x)), (3, .int (o0)), (4, .int (0)), (5, .int (0))] → W p l e (RM 4 85) s m av below meth c H locs 0 0 Q (F0 m 173 ls [])) → W p l e (RM 4 85) s m av below meth c H locs 0 0 Q (F0 m 81 ls []) := fun M x u z h H locs hW hS ls hl kx => ih0 M x u z o0 M2 h C H locs hW hS ls hl kx
    unfold lp_L_areMetals_81 at h
    try dsimp only at h
    have hx := C.1
    have hb := C.2.1
    have hts := C.2.2.2.2.1
    refine lv_iload hx hb dL_areMetals_81 (lv_at hl 6 rfl) ?_
    refine lv_aload_n hx hb dL_areMetals_83 rfl (lv_at hl 0 rfl) ?_
    refine lv_iconst (v := 0) hx hb dL_areMetals_84 (by decide) ?_
    obtain ⟨r2001, Mw2002, h2003, h⟩ := bind2 h
    refine cBackC C.2.2.2.2.2.2.2.2 (runVU (As := [.int (0)]) (rest := [.int (z)]) C hW hS (c_X10_count l g M 0 _ _ h2003) kV_X10_count ml_L_13 (by decide) tm_BF rfl rfl rfl hl.1 rfl (Nat.le_of_ble_eq_true rfl) ⟨Nat.le_of_ble_eq_true rfl, Nat.le_of_ble_eq_true rfl⟩ ⟨Nat.zero_le _, Nat.zero_le _⟩ dL_areMetals_85) hS (fun v0 w0 H locs hp hW hS hq => ?_)
    obtain ⟨rfl, rfl⟩ := hp
    refine lv_icmp_ge (tgt := 173) hx hb dL_areMetals_88 (by decide) (fun c2004 => ?_) (fun c2004 => ?_)
    · rw [if_pos c2004] at h
      cases h
      exact kx _ _ hW hS ls (lv_sub hl [0, 1, 2, 3, 4, 5] rfl)
    · rw [if_neg c2004] at h
      refine lv_iload_n hx hb dL_areMetals_91 rfl (lv_at hl 3 rfl) ?_
      refine lv_aload_n hx hb dL_areMetals_92 rfl (lv_at hl 0 rfl) ?_
      refine lv_iload hx hb dL_areMetals_93 (lv_at hl 6 rfl) ?_
      refine lv_iload_n hx hb dL_areMetals_95 rfl (lv_at hl 2 rfl) ?_
      obtain ⟨r2005, Mw2006, h2007, h⟩ := bind2 h
      refine cBackC C.2.2.2.2.2.2.2.2 (runVU (As := [.int (z), .int (x)]) (rest := [.int (u)]) C hW hS (c_X10_lot l g Mw2002 z x _ _ h2007) kV_X10_lot ml_L_23 (by decide) tm_BF rfl rfl rfl hl.1 rfl (Nat.le_of_ble_eq_true rfl) ⟨Nat.le_of_ble_eq_true rfl, Nat.le_of_ble_eq_true rfl⟩ ⟨Nat.zero_le _, Nat.zero_le _⟩ dL_areMetals_96) hS (fun v0 w0 H locs hp hW hS hq => ?_)
      obtain ⟨rfl, rfl⟩ := hp
      refine lv_iadd hx hb dL_areMetals_99 ?_
      refine lv_istore_n (lv' := [(3, .int ((u) + (r2005))), (0, rf g (0)), (1, .int (1)), (2, .int (x)), (4, .int (0)), (5, .int (0)), (6, .int (z))]) hx hb dL_areMetals_100 rfl hl (by decide) rfl (fun ls hl => ?_)
      refine lv_iload_n hx hb dL_areMetals_101 rfl (lv_at hl 2 rfl) ?_
      refine lv_if_eq (tgt := 165) hx hb dL_areMetals_102 (by decide) (fun c2008 => ?_) (fun c2008 => ?_)
      · rw [if_pos c2008] at h
        cases h
      · rw [if_neg c2008] at h
        refine lv_aload_n hx hb dL_areMetals_105 rfl (lv_at hl 1 rfl) ?_
        refine lv_iload hx hb dL_areMetals_106 (lv_at hl 6 rfl) ?_
        refine lv_iconst (v := 2) hx hb dL_areMetals_108 (by decide) ?_
        obtain ⟨r2009, Mw2010, h2011, h⟩ := bind2 h
        refine cBackC C.2.2.2.2.2.2.2.2 (runVU (As := [.int (z), .int (2)]) (rest := []) C hW hS (c_X10_lot l g Mw2006 z 2 _ _ h2011) kV_X10_lot ml_L_23 (by decide) tm_BF rfl rfl rfl hl.1 rfl (Nat.le_of_ble_eq_true rfl) ⟨Nat.le_of_ble_eq_true rfl, Nat.le_of_ble_eq_true rfl⟩ ⟨Nat.zero_le _, Nat.zero_le _⟩ dL_areMetals_109) hS (fun v0 w0 H locs hp hW hS hq => ?_)
        obtain ⟨rfl, rfl⟩ := hp
        refine lv_if_le (tgt := 165) hx hb dL_areMetals_112 (by decide) (fun c2012 => ?_) (fun c2012 => ?_)
        · rw [if_pos c2012] at h
          refine lv_iconst (v := 0) hx hb dL_areMetals_165 (by decide) ?_
          cases h
        · rw [if_neg c2012] at h
          refine lv_aload_n hx hb dL_areMetals_115 rfl (lv_at hl 1 rfl) ?_
          refine lv_iload hx hb dL_areMetals_116 (lv_at hl 6 rfl) ?_
          refine lv_iconst (v := 0) hx hb dL_areMetals_118 (by decide) ?_
          obtain ⟨r2013, Mw2014, h2015, h⟩ := bind2 h
          refine cBackC C.2.2.2.2.2.2.2.2 (runVU (As := [.int (z), .int (0)]) (rest := []) C hW hS (c_X10_lot l g Mw2010 z 0 _ _ h2015) kV_X10_lot ml_L_23 (by decide) tm_BF rfl rfl rfl hl.1 rfl (Nat.le_of_ble_eq_true rfl) ⟨Nat.le_of_ble_eq_true rfl, Nat.le_of_ble_eq_true rfl⟩ ⟨Nat.zero_le _, Nat.zero_le _⟩ dL_areMetals_119) hS (fun v0 w0 H locs hp hW hS hq => ?_)
          obtain ⟨rfl, rfl⟩ := hp
          refine lv_aload_n hx hb dL_areMetals_122 rfl (lv_at hl 1 rfl) ?_
          refine lv_iload hx hb dL_areMetals_123 (lv_at hl 6 rfl) ?_
          refine lv_iconst (v := 1) hx hb dL_areMetals_125 (by decide) ?_
          obtain ⟨r2016, Mw2017, h2018, h⟩ := bind2 h
          refine cBackC C.2.2.2.2.2.2.2.2 (runVU (As := [.int (z), .int (1)]) (rest := [.int (r2013)]) C hW hS (c_X10_lot l g Mw2014 z 1 _ _ h2018) kV_X10_lot ml_L_23 (by decide) tm_BF rfl rfl rfl hl.1 rfl (Nat.le_of_ble_eq_true rfl) ⟨Nat.le_of_ble_eq_true rfl, Nat.le_of_ble_eq_true rfl⟩ ⟨Nat.zero_le _, Nat.zero_le _⟩ dL_areMetals_126) hS (fun v0 w0 H locs hp hW hS hq => ?_)
          obtain ⟨rfl, rfl⟩ := hp
          refine lv_iadd hx hb dL_areMetals_129 ?_
          refine lv_aload_n hx hb dL_areMetals_130 rfl (lv_at hl 1 rfl) ?_
          refine lv_iload hx hb dL_areMetals_131 (lv_at hl 6 rfl) ?_
          refine lv_iconst (v := 2) hx hb dL_areMetals_133 (by decide) ?_
          obtain ⟨r2019, Mw2020, h2021, h⟩ := bind2 h
          refine cBackC C.2.2.2.2.2.2.2.2 (runVU (As := [.int (z), .int (2)]) (rest := [.int ((r2013) + (r2016))]) C hW hS (c_X10_lot l g Mw2017 z 2 _ _ h2021) kV_X10_lot ml_L_23 (by decide) tm_BF rfl rfl rfl hl.1 rfl (Nat.le_of_ble_eq_true rfl) ⟨Nat.le_of_ble_eq_true rfl, Nat.le_of_ble_eq_true rfl⟩ ⟨Nat.zero_le _, Nat.zero_le _⟩ dL_areMetals_134) hS (fun v0 w0 H locs hp hW hS hq => ?_)
          obtain ⟨rfl, rfl⟩ := hp
          refine lv_icmp_ne (tgt := 165) hx hb dL_areMetals_137 (by decide) (fun c2022 => ?_) (fun c2022 => ?_)
          · rw [if_neg c2022] at h
            refine lv_iconst (v := 0) hx hb dL_areMetals_165 (by decide) ?_
            cases h
          · rw [if_pos c2022] at h
            refine lv_aload_n hx hb dL_areMetals_140 rfl (lv_at hl 1 rfl) ?_
            refine lv_iload hx hb dL_areMetals_141 (lv_at hl 6 rfl) ?_
            refine lv_iconst (v := 4) hx hb dL_areMetals_143 (by decide) ?_
            obtain ⟨r2023, Mw2024, h2025, h⟩ := bind2 h
            refine cBackC C.2.2.2.2.2.2.2.2 (runVU (As := [.int (z), .int (4)]) (rest := []) C hW hS (c_X10_lot l g Mw2020 z 4 _ _ h2025) kV_X10_lot ml_L_23 (by decide) tm_BF rfl rfl rfl hl.1 rfl (Nat.le_of_ble_eq_true rfl) ⟨Nat.le_of_ble_eq_true rfl, Nat.le_of_ble_eq_true rfl⟩ ⟨Nat.zero_le _, Nat.zero_le _⟩ dL_areMetals_144) hS (fun v0 w0 H locs hp hW hS hq => ?_)
            obtain ⟨rfl, rfl⟩ := hp
            refine lv_if_lt (tgt := 165) hx hb dL_areMetals_147 (by decide) (fun c2026 => ?_) (fun c2026 => ?_)
            · rw [if_pos c2026] at h
              refine lv_iconst (v := 0) hx hb dL_areMetals_165 (by decide) ?_
              cases h
            · rw [if_neg c2026] at h
              refine lv_aload_n hx hb dL_areMetals_150 rfl (lv_at hl 1 rfl) ?_
              refine lv_iload hx hb dL_areMetals_151 (lv_at hl 6 rfl) ?_
              refine lv_iconst (v := 4) hx hb dL_areMetals_153 (by decide) ?_
              obtain ⟨r2027, Mw2028, h2029, h⟩ := bind2 h
              refine cBackC C.2.2.2.2.2.2.2.2 (runVU (As := [.int (z), .int (4)]) (rest := []) C hW hS (c_X10_lot l g Mw2024 z 4 _ _ h2029) kV_X10_lot ml_L_23 (by decide) tm_BF rfl rfl rfl hl.1 rfl (Nat.le_of_ble_eq_true rfl) ⟨Nat.le_of_ble_eq_true rfl, Nat.le_of_ble_eq_true rfl⟩ ⟨Nat.zero_le _, Nat.zero_le _⟩ dL_areMetals_154) hS (fun v0 w0 H locs hp hW hS hq => ?_)
              obtain ⟨rfl, rfl⟩ := hp
              refine lv_iconst (v := 3) hx hb dL_areMetals_157 (by decide) ?_
              refine lv_icmp_ge (tgt := 165) hx hb dL_areMetals_158 (by decide) (fun c2030 => ?_) (fun c2030 => ?_)
              · rw [if_pos c2030] at h
                refine lv_iconst (v := 0) hx hb dL_areMetals_165 (by decide) ?_
                cases h
              · rw [if_neg c2030] at h
                refine lv_iconst (v := 1) hx hb dL_areMetals_161 (by decide) ?_
                refine lv_goto (tgt := 166) hx hb dL_areMetals_162 (by decide) ?_
                refine lv_istore_n (lv' := [(1, .int (1)), (3, .int ((u) + (r2005))), (0, rf g (0)), (2, .int (x)), (4, .int (0)), (5, .int (0)), (6, .int (z))]) hx hb dL_areMetals_166 rfl hl (by decide) rfl (fun ls hl => ?_)
                refine lv_iinc (v := z + 1) (lv' := [(6, .int (z + 1)), (1, .int (1)), (3, .int ((u) + (r2005))), (0, rf g (0)), (2, .int (x)), (4, .int (0)), (5, .int (0))]) hx hb dL_areMetals_167 hl (k := 6) rfl rfl (by decide) rfl (fun ls hl => ?_)
                refine lv_goto (tgt := 81) hx hb dL_areMetals_170 (by decide) ?_
                exact ih Mw2028 x ((u) + (r2005)) (z + 1) h _ _ hW hS ls (lv_sub hl [3, 1, 4, 2, 5, 6, 0] rfl) kx
set_option maxHeartbeats 4000000 in
set_option maxRecDepth 100000 in
theorem t_L_areMetals_61 (l : Launch) (g : GD)  {p : Program} {e : Env} {s : State} {m : MethodId} {av : Array Value} {below : List Frame} {meth : Method} {c : Code} (n : Nat) : ∀ (M : MM) (z : Int32) (r : Int32) (M2 : MM), lp_L_areMetals_61 n M z = some (r, M2) → CX p s m av c cL_areMetals 8 RL g → meth.sig.returnType = (some .boolean) → meth.locks = false → ∀ (H : Heap) (locs : List Loc), Wd g M H → sU g s H locs → ∀ ls : Array Slot, lv_has ls 8 [(0, rf g (0)), (1, .int (1)), (2, .int (z))] → W p l e (RM 4 85) s m av below meth c H locs 0 0 (MQ below (QU g (fun v w0 => v = .int r ∧ M2 = w0)) av s 0 0 (AU g)) (F0 m 61 ls []) := by
  induction n with
  | zero => intro M z r M2 h; cases h
  | succ n ih0 =>
    intro M z r M2 h C hr hlk H locs hW hS ls hl
    have ih : ∀ (M : MM) (z : Int32), lp_L_areMetals_61 n M z = some (r, M2) → ∀ (H : Heap) (locs : List Loc), Wd g M H → sU g s H locs → ∀ ls : Array Slot, lv_has ls 8 [(0, rf g (0)), (1, .int (1)), (2, .int (z))] → W p l e (RM 4 85) s m av below meth c H locs 0 0 (MQ below (QU g (fun v w0 => v = .int r ∧ M2 = w0)) av s 0 0 (AU g)) (F0 m 61 ls []) := fun M z h H locs hW hS ls hl => ih0 M z r M2 h C hr hlk H locs hW hS ls hl
    unfold lp_L_areMetals_61 at h
    try dsimp only at h
    have hx := C.1
    have hb := C.2.1
    have hts := C.2.2.2.2.1
    refine lv_iload_n hx hb dL_areMetals_61 rfl (lv_at hl 2 rfl) ?_
    refine lv_iconst (v := 2) hx hb dL_areMetals_62 (by decide) ?_
    refine lv_icmp_ge (tgt := 372) hx hb dL_areMetals_63 (by decide) (fun c1001 => ?_) (fun c1001 => ?_)
    · rw [if_pos c1001] at h
      refine lv_iload_n hx hb dL_areMetals_372 rfl (lv_at hl 1 rfl) ?_
      cases h
      exact rZU C hr hlk dL_areMetals_373 hW hS rfl ⟨rfl, rfl⟩
    · rw [if_neg c1001] at h
      refine lv_iload_n hx hb dL_areMetals_66 rfl (lv_at hl 1 rfl) ?_
      refine lv_if_eq (tgt := 372) hx hb dL_areMetals_67 (by decide) (fun c1002 => ?_) (fun c1002 => ?_)
      · rw [if_pos c1002] at h
        cases h
      · rw [if_neg c1002] at h
        refine lv_iconst (v := 0) hx hb dL_areMetals_70 (by decide) ?_
        refine lv_istore_n (lv' := [(3, .int (0)), (0, rf g (0)), (1, .int (1)), (2, .int (z))]) hx hb dL_areMetals_71 rfl hl (by decide) rfl (fun ls hl => ?_)
        refine lv_iconst (v := 0) hx hb dL_areMetals_72 (by decide) ?_
        refine lv_istore (lv' := [(4, .int (0)), (3, .int (0)), (0, rf g (0)), (1, .int (1)), (2, .int (z))]) hx hb dL_areMetals_73 hl (by decide) rfl (fun ls hl => ?_)
        refine lv_iconst (v := 0) hx hb dL_areMetals_75 (by decide) ?_
        refine lv_istore (lv' := [(5, .int (0)), (4, .int (0)), (3, .int (0)), (0, rf g (0)), (1, .int (1)), (2, .int (z))]) hx hb dL_areMetals_76 hl (by decide) rfl (fun ls hl => ?_)
        refine lv_iconst (v := 0) hx hb dL_areMetals_78 (by decide) ?_
        refine lv_istore (lv' := [(6, .int (0)), (5, .int (0)), (4, .int (0)), (3, .int (0)), (0, rf g (0)), (1, .int (1)), (2, .int (z))]) hx hb dL_areMetals_79 hl (by decide) rfl (fun ls hl => ?_)
        obtain ⟨y1003, Mw1004, h1005, h⟩ := bind2 h
        refine t_L_areMetals_81 l g FU M z 0 0 y1003 Mw1004 h1005 C _ _ hW hS ls (lv_sub hl [4, 5, 6, 3, 2, 1, 0] rfl) (fun H locs hW hS ls hl => ?_)
        refine lv_iconst (v := 0) hx hb dL_areMetals_173 (by decide) ?_
        refine lv_istore (lv' := [(6, .int (0)), (0, rf g (0)), (1, .int (1)), (2, .int (z)), (3, .int (y1003)), (4, .int (0)), (5, .int (0))]) hx hb dL_areMetals_174 hl (by decide) rfl (fun ls hl => ?_)
        obtain ⟨y1006, y1007, Mw1008, h1009, h⟩ := bind3 h
        refine t_L_areMetals_176 l g y1003 FU Mw1004 z 0 0 0 y1006 y1007 Mw1008 h1009 C _ _ hW hS ls (lv_sub hl [1, 2, 3, 4, 5, 6, 0] rfl) (fun H locs hW hS ls hl => ?_)
        refine lv_iconst (v := 0) hx hb dL_areMetals_248 (by decide) ?_
        refine lv_istore (lv' := [(6, .int (0)), (0, rf g (0)), (1, .int (1)), (2, .int (z)), (3, .int (y1003)), (4, .int (y1006)), (5, .int (y1007))]) hx hb dL_areMetals_249 hl (by decide) rfl (fun ls hl => ?_)
        refine lv_iconst (v := 1) hx hb dL_areMetals_251 (by decide) ?_
        refine lv_istore (lv' := [(7, .int (1)), (6, .int (0)), (0, rf g (0)), (1, .int (1)), (2, .int (z)), (3, .int (y1003)), (4, .int (y1006)), (5, .int (y1007))]) hx hb dL_areMetals_252 hl (by decide) rfl (fun ls hl => ?_)
        obtain ⟨y1010, Mw1011, h1012, h⟩ := bind2 h
        refine t_L_areMetals_254 l g y1003 y1006 y1007 FU Mw1008 z 0 1 y1010 Mw1011 h1012 C _ _ hW hS ls (lv_sub hl [2, 3, 4, 5, 6, 7, 1, 0] rfl) (fun H locs hW hS ls hl => ?_)
        refine lv_iload_n hx hb dL_areMetals_299 rfl (lv_at hl 1 rfl) ?_
        refine lv_if_eq (tgt := 364) hx hb dL_areMetals_300 (by decide) (fun c1013 => ?_) (fun c1013 => ?_)
        · rw [if_pos c1013] at h
          cases h
        · rw [if_neg c1013] at h
          refine lv_aload_n hx hb dL_areMetals_303 rfl (lv_at hl 0 rfl) ?_
          refine lv_iload_n hx hb dL_areMetals_304 rfl (lv_at hl 2 rfl) ?_
          refine lv_iconst (v := 0) hx hb dL_areMetals_305 (by decide) ?_
          obtain ⟨r1014, Mw1015, h1016, h⟩ := bind2 h
          refine cBackC C.2.2.2.2.2.2.2.2 (runVU (As := [.int (z), .int (0)]) (rest := []) C hW hS (c_X10_account l g Mw1011 z 0 _ _ h1016) kV_X10_account ml_L_19 (by decide) tm_BF rfl rfl rfl hl.1 rfl (Nat.le_of_ble_eq_true rfl) ⟨Nat.le_of_ble_eq_true rfl, Nat.le_of_ble_eq_true rfl⟩ ⟨Nat.zero_le _, Nat.zero_le _⟩ dL_areMetals_306) hS (fun v0 w0 H locs hp hW hS hq => ?_)
          obtain ⟨rfl, rfl⟩ := hp
          refine lv_iload hx hb dL_areMetals_309 (lv_at hl 6 rfl) ?_
          refine lv_icmp_ne (tgt := 364) hx hb dL_areMetals_311 (by decide) (fun c1017 => ?_) (fun c1017 => ?_)
          · rw [if_neg c1017] at h
            refine lv_iconst (v := 0) hx hb dL_areMetals_364 (by decide) ?_
            cases h
          · rw [if_pos c1017] at h
            refine lv_aload_n hx hb dL_areMetals_314 rfl (lv_at hl 0 rfl) ?_
            refine lv_iload_n hx hb dL_areMetals_315 rfl (lv_at hl 2 rfl) ?_
            refine lv_iconst (v := 2) hx hb dL_areMetals_316 (by decide) ?_
            obtain ⟨r1018, Mw1019, h1020, h⟩ := bind2 h
            refine cBackC C.2.2.2.2.2.2.2.2 (runVU (As := [.int (z), .int (2)]) (rest := []) C hW hS (c_X10_account l g Mw1015 z 2 _ _ h1020) kV_X10_account ml_L_19 (by decide) tm_BF rfl rfl rfl hl.1 rfl (Nat.le_of_ble_eq_true rfl) ⟨Nat.le_of_ble_eq_true rfl, Nat.le_of_ble_eq_true rfl⟩ ⟨Nat.zero_le _, Nat.zero_le _⟩ dL_areMetals_317) hS (fun v0 w0 H locs hp hW hS hq => ?_)
            obtain ⟨rfl, rfl⟩ := hp
            refine lv_aload_n hx hb dL_areMetals_320 rfl (lv_at hl 0 rfl) ?_
            refine lv_iload_n hx hb dL_areMetals_321 rfl (lv_at hl 2 rfl) ?_
            obtain ⟨r1021, Mw1022, h1023, h⟩ := bind2 h
            refine cBackC C.2.2.2.2.2.2.2.2 (runVU (As := [.int (z)]) (rest := [.int (r1018)]) C hW hS (c_X10_melt l g Mw1019 z _ _ h1023) kV_X10_melt ml_L_47 (by decide) tm_BF rfl rfl rfl hl.1 rfl (Nat.le_of_ble_eq_true rfl) ⟨Nat.le_of_ble_eq_true rfl, Nat.le_of_ble_eq_true rfl⟩ ⟨Nat.zero_le _, Nat.zero_le _⟩ dL_areMetals_322) hS (fun v0 w0 H locs hp hW hS hq => ?_)
            obtain ⟨rfl, rfl⟩ := hp
            refine lv_icmp_ne (tgt := 364) hx hb dL_areMetals_325 (by decide) (fun c1024 => ?_) (fun c1024 => ?_)
            · rw [if_neg c1024] at h
              refine lv_iconst (v := 0) hx hb dL_areMetals_364 (by decide) ?_
              cases h
            · rw [if_pos c1024] at h
              refine lv_aload_n hx hb dL_areMetals_328 rfl (lv_at hl 0 rfl) ?_
              refine lv_iload_n hx hb dL_areMetals_329 rfl (lv_at hl 2 rfl) ?_
              refine lv_iconst (v := 3) hx hb dL_areMetals_330 (by decide) ?_
              obtain ⟨r1025, Mw1026, h1027, h⟩ := bind2 h
              refine cBackC C.2.2.2.2.2.2.2.2 (runVU (As := [.int (z), .int (3)]) (rest := []) C hW hS (c_X10_account l g Mw1022 z 3 _ _ h1027) kV_X10_account ml_L_19 (by decide) tm_BF rfl rfl rfl hl.1 rfl (Nat.le_of_ble_eq_true rfl) ⟨Nat.le_of_ble_eq_true rfl, Nat.le_of_ble_eq_true rfl⟩ ⟨Nat.zero_le _, Nat.zero_le _⟩ dL_areMetals_331) hS (fun v0 w0 H locs hp hW hS hq => ?_)
              obtain ⟨rfl, rfl⟩ := hp
              refine lv_iload_n hx hb dL_areMetals_334 rfl (lv_at hl 3 rfl) ?_
              refine lv_icmp_ne (tgt := 364) hx hb dL_areMetals_335 (by decide) (fun c1028 => ?_) (fun c1028 => ?_)
              · rw [if_neg c1028] at h
                refine lv_iconst (v := 0) hx hb dL_areMetals_364 (by decide) ?_
                cases h
              · rw [if_pos c1028] at h
                refine lv_aload_n hx hb dL_areMetals_338 rfl (lv_at hl 0 rfl) ?_
                refine lv_iload_n hx hb dL_areMetals_339 rfl (lv_at hl 2 rfl) ?_
                refine lv_iconst (v := 4) hx hb dL_areMetals_340 (by decide) ?_
                obtain ⟨r1029, Mw1030, h1031, h⟩ := bind2 h
                refine cBackC C.2.2.2.2.2.2.2.2 (runVU (As := [.int (z), .int (4)]) (rest := []) C hW hS (c_X10_account l g Mw1026 z 4 _ _ h1031) kV_X10_account ml_L_19 (by decide) tm_BF rfl rfl rfl hl.1 rfl (Nat.le_of_ble_eq_true rfl) ⟨Nat.le_of_ble_eq_true rfl, Nat.le_of_ble_eq_true rfl⟩ ⟨Nat.zero_le _, Nat.zero_le _⟩ dL_areMetals_341) hS (fun v0 w0 H locs hp hW hS hq => ?_)
                obtain ⟨rfl, rfl⟩ := hp
                refine lv_iload hx hb dL_areMetals_344 (lv_at hl 4 rfl) ?_
                refine lv_icmp_ne (tgt := 364) hx hb dL_areMetals_346 (by decide) (fun c1032 => ?_) (fun c1032 => ?_)
                · rw [if_neg c1032] at h
                  refine lv_iconst (v := 0) hx hb dL_areMetals_364 (by decide) ?_
                  cases h
                · rw [if_pos c1032] at h
                  refine lv_aload_n hx hb dL_areMetals_349 rfl (lv_at hl 0 rfl) ?_
                  refine lv_iload_n hx hb dL_areMetals_350 rfl (lv_at hl 2 rfl) ?_
                  refine lv_iconst (v := 5) hx hb dL_areMetals_351 (by decide) ?_
                  obtain ⟨r1033, Mw1034, h1035, h⟩ := bind2 h
                  refine cBackC C.2.2.2.2.2.2.2.2 (runVU (As := [.int (z), .int (5)]) (rest := []) C hW hS (c_X10_account l g Mw1030 z 5 _ _ h1035) kV_X10_account ml_L_19 (by decide) tm_BF rfl rfl rfl hl.1 rfl (Nat.le_of_ble_eq_true rfl) ⟨Nat.le_of_ble_eq_true rfl, Nat.le_of_ble_eq_true rfl⟩ ⟨Nat.zero_le _, Nat.zero_le _⟩ dL_areMetals_352) hS (fun v0 w0 H locs hp hW hS hq => ?_)
                  obtain ⟨rfl, rfl⟩ := hp
                  refine lv_iload hx hb dL_areMetals_355 (lv_at hl 5 rfl) ?_
                  refine lv_icmp_ne (tgt := 364) hx hb dL_areMetals_357 (by decide) (fun c1036 => ?_) (fun c1036 => ?_)
                  · rw [if_neg c1036] at h
                    refine lv_iconst (v := 0) hx hb dL_areMetals_364 (by decide) ?_
                    cases h
                  · rw [if_pos c1036] at h
                    refine lv_iconst (v := 1) hx hb dL_areMetals_360 (by decide) ?_
                    refine lv_goto (tgt := 365) hx hb dL_areMetals_361 (by decide) ?_
                    refine lv_istore_n (lv' := [(1, .int (1)), (0, rf g (0)), (2, .int (z)), (3, .int (y1003)), (4, .int (y1006)), (5, .int (y1007)), (6, .int (y1010))]) hx hb dL_areMetals_365 rfl hl (by decide) rfl (fun ls hl => ?_)
                    refine lv_iinc (v := z + 1) (lv' := [(2, .int (z + 1)), (1, .int (1)), (0, rf g (0)), (3, .int (y1003)), (4, .int (y1006)), (5, .int (y1007)), (6, .int (y1010))]) hx hb dL_areMetals_366 hl (k := 2) rfl rfl (by decide) rfl (fun ls hl => ?_)
                    refine lv_goto (tgt := 61) hx hb dL_areMetals_369 (by decide) ?_
                    exact ih Mw1034 (z + 1) h _ _ hW hS ls (lv_sub hl [2, 1, 0] rfl)
set_option maxHeartbeats 4000000 in
set_option maxRecDepth 100000 in
theorem c_L_areMetals (l : Launch) (g : GD) (M : MM)  (r : Int32) (M2 : MM) (h : f_L_areMetals M  = some (r, M2)) : Met l yL_areMetals (wm yL_areMetals cL_areMetals 8 (some .boolean)) (RM 4 85) (va_Pc [rf g (0)] (WDp g M)) (QU g (fun v w0 => v = .int r ∧ M2 = w0)) 0 0 (AU g) := by
  refine mkU (by decide +kernel) (Nat.le_of_ble_eq_true rfl) ?_
  intro p e s m below meth c C hr hlk hW hS ls hl
  have hl : lv_has ls 8 [(0, rf g (0))] := hl
  have hx := C.1
  have hb := C.2.1
  have hts := C.2.2.2.2.1
  unfold f_L_areMetals at h
  refine lv_aload_n hx hb dL_areMetals_0 rfl (lv_at hl 0 rfl) ?_
  refine lv_iconst (v := 2) hx hb dL_areMetals_1 (by decide) ?_
  obtain ⟨r1, Mw2, h3, h⟩ := bind2 h
  refine cBackC C.2.2.2.2.2.2.2.2 (runVU (As := [.int (2)]) (rest := []) C hW hS (c_X10_melt l g M 2 _ _ h3) kV_X10_melt ml_L_47 (by decide) tm_BF rfl rfl rfl hl.1 rfl (Nat.le_of_ble_eq_true rfl) ⟨Nat.le_of_ble_eq_true rfl, Nat.le_of_ble_eq_true rfl⟩ ⟨Nat.zero_le _, Nat.zero_le _⟩ dL_areMetals_2) hS (fun v0 w0 H locs hp hW hS hq => ?_)
  obtain ⟨rfl, rfl⟩ := hp
  refine lv_aload_n hx hb dL_areMetals_5 rfl (lv_at hl 0 rfl) ?_
  refine lv_iconst (v := 0) hx hb dL_areMetals_6 (by decide) ?_
  obtain ⟨r4, Mw5, h6, h⟩ := bind2 h
  refine cBackC C.2.2.2.2.2.2.2.2 (runVU (As := [.int (0)]) (rest := [.int (r1)]) C hW hS (c_X10_melt l g Mw2 0 _ _ h6) kV_X10_melt ml_L_47 (by decide) tm_BF rfl rfl rfl hl.1 rfl (Nat.le_of_ble_eq_true rfl) ⟨Nat.le_of_ble_eq_true rfl, Nat.le_of_ble_eq_true rfl⟩ ⟨Nat.zero_le _, Nat.zero_le _⟩ dL_areMetals_7) hS (fun v0 w0 H locs hp hW hS hq => ?_)
  obtain ⟨rfl, rfl⟩ := hp
  refine lv_aload_n hx hb dL_areMetals_10 rfl (lv_at hl 0 rfl) ?_
  refine lv_iconst (v := 1) hx hb dL_areMetals_11 (by decide) ?_
  obtain ⟨r7, Mw8, h9, h⟩ := bind2 h
  refine cBackC C.2.2.2.2.2.2.2.2 (runVU (As := [.int (1)]) (rest := [.int (r4), .int (r1)]) C hW hS (c_X10_melt l g Mw5 1 _ _ h9) kV_X10_melt ml_L_47 (by decide) tm_BF rfl rfl rfl hl.1 rfl (Nat.le_of_ble_eq_true rfl) ⟨Nat.le_of_ble_eq_true rfl, Nat.le_of_ble_eq_true rfl⟩ ⟨Nat.zero_le _, Nat.zero_le _⟩ dL_areMetals_12) hS (fun v0 w0 H locs hp hW hS hq => ?_)
  obtain ⟨rfl, rfl⟩ := hp
  refine lv_iadd hx hb dL_areMetals_15 ?_
  refine lv_icmp_ne (tgt := 57) hx hb dL_areMetals_16 (by decide) (fun c10 => ?_) (fun c10 => ?_)
  · rw [if_neg c10] at h
    refine lv_iconst (v := 0) hx hb dL_areMetals_57 (by decide) ?_
    cases h
  · rw [if_pos c10] at h
    refine lv_aload_n hx hb dL_areMetals_19 rfl (lv_at hl 0 rfl) ?_
    refine lv_iconst (v := 4) hx hb dL_areMetals_20 (by decide) ?_
    obtain ⟨r11, Mw12, h13, h⟩ := bind2 h
    refine cBackC C.2.2.2.2.2.2.2.2 (runVU (As := [.int (4)]) (rest := []) C hW hS (c_X10_melt l g Mw8 4 _ _ h13) kV_X10_melt ml_L_47 (by decide) tm_BF rfl rfl rfl hl.1 rfl (Nat.le_of_ble_eq_true rfl) ⟨Nat.le_of_ble_eq_true rfl, Nat.le_of_ble_eq_true rfl⟩ ⟨Nat.zero_le _, Nat.zero_le _⟩ dL_areMetals_21) hS (fun v0 w0 H locs hp hW hS hq => ?_)
    obtain ⟨rfl, rfl⟩ := hp
    refine lv_aload_n hx hb dL_areMetals_24 rfl (lv_at hl 0 rfl) ?_
    refine lv_iconst (v := 2) hx hb dL_areMetals_25 (by decide) ?_
    obtain ⟨r14, Mw15, h16, h⟩ := bind2 h
    refine cBackC C.2.2.2.2.2.2.2.2 (runVU (As := [.int (2)]) (rest := [.int (r11)]) C hW hS (c_X10_melt l g Mw12 2 _ _ h16) kV_X10_melt ml_L_47 (by decide) tm_BF rfl rfl rfl hl.1 rfl (Nat.le_of_ble_eq_true rfl) ⟨Nat.le_of_ble_eq_true rfl, Nat.le_of_ble_eq_true rfl⟩ ⟨Nat.zero_le _, Nat.zero_le _⟩ dL_areMetals_26) hS (fun v0 w0 H locs hp hW hS hq => ?_)
    obtain ⟨rfl, rfl⟩ := hp
    refine lv_icmp_gt (tgt := 57) hx hb dL_areMetals_29 (by decide) (fun c17 => ?_) (fun c17 => ?_)
    · rw [if_pos c17] at h
      refine lv_iconst (v := 0) hx hb dL_areMetals_57 (by decide) ?_
      cases h
    · rw [if_neg c17] at h
      refine lv_aload_n hx hb dL_areMetals_32 rfl (lv_at hl 0 rfl) ?_
      refine lv_iconst (v := 2) hx hb dL_areMetals_33 (by decide) ?_
      obtain ⟨r18, Mw19, h20, h⟩ := bind2 h
      refine cBackC C.2.2.2.2.2.2.2.2 (runVU (As := [.int (2)]) (rest := []) C hW hS (c_X10_melt l g Mw15 2 _ _ h20) kV_X10_melt ml_L_47 (by decide) tm_BF rfl rfl rfl hl.1 rfl (Nat.le_of_ble_eq_true rfl) ⟨Nat.le_of_ble_eq_true rfl, Nat.le_of_ble_eq_true rfl⟩ ⟨Nat.zero_le _, Nat.zero_le _⟩ dL_areMetals_34) hS (fun v0 w0 H locs hp hW hS hq => ?_)
      obtain ⟨rfl, rfl⟩ := hp
      refine lv_sipush (v := 20000) hx hb dL_areMetals_37 (by decide) ?_
      refine lv_icmp_gt (tgt := 57) hx hb dL_areMetals_40 (by decide) (fun c21 => ?_) (fun c21 => ?_)
      · rw [if_pos c21] at h
        refine lv_iconst (v := 0) hx hb dL_areMetals_57 (by decide) ?_
        cases h
      · rw [if_neg c21] at h
        refine lv_aload_n hx hb dL_areMetals_43 rfl (lv_at hl 0 rfl) ?_
        refine lv_iconst (v := 0) hx hb dL_areMetals_44 (by decide) ?_
        obtain ⟨r22, Mw23, h24, h⟩ := bind2 h
        refine cBackC C.2.2.2.2.2.2.2.2 (runVU (As := [.int (0)]) (rest := []) C hW hS (c_X10_count l g Mw19 0 _ _ h24) kV_X10_count ml_L_13 (by decide) tm_BF rfl rfl rfl hl.1 rfl (Nat.le_of_ble_eq_true rfl) ⟨Nat.le_of_ble_eq_true rfl, Nat.le_of_ble_eq_true rfl⟩ ⟨Nat.zero_le _, Nat.zero_le _⟩ dL_areMetals_45) hS (fun v0 w0 H locs hp hW hS hq => ?_)
        obtain ⟨rfl, rfl⟩ := hp
        refine lv_bipush (v := 12) hx hb dL_areMetals_48 (by decide) ?_
        refine lv_icmp_gt (tgt := 57) hx hb dL_areMetals_50 (by decide) (fun c25 => ?_) (fun c25 => ?_)
        · rw [if_pos c25] at h
          refine lv_iconst (v := 0) hx hb dL_areMetals_57 (by decide) ?_
          cases h
        · rw [if_neg c25] at h
          refine lv_iconst (v := 1) hx hb dL_areMetals_53 (by decide) ?_
          refine lv_goto (tgt := 58) hx hb dL_areMetals_54 (by decide) ?_
          refine lv_istore_n (lv' := [(1, .int (1)), (0, rf g (0))]) hx hb dL_areMetals_58 rfl hl (by decide) rfl (fun ls hl => ?_)
          refine lv_iconst (v := 0) hx hb dL_areMetals_59 (by decide) ?_
          refine lv_istore_n (lv' := [(2, .int (0)), (1, .int (1)), (0, rf g (0))]) hx hb dL_areMetals_60 rfl hl (by decide) rfl (fun ls hl => ?_)
          exact t_L_areMetals_61 l g FU Mw23 0 _ _ h C hr hlk _ _ hW hS ls (lv_sub hl [2, 1, 0] rfl)
def lp_L_fits_70 (fu : Nat) (M : MM) (x : Int32) (u : Int32) (v : Int32) (z : Int32) : Option (Int32 × Int32 × MM) := match fu with
  | 0 => none
  | n + 1 => (if (z : Int32) < 0 then some (u, v, M) else (bnd2 (f_X10_bell M z 5) fun r2002 Mw2003 => (bnd2 (f_X10_orderOf Mw2003 x 1) fun r2005 Mw2006 => (bnd2 (f_X10_bell Mw2006 z 8) fun r2008 Mw2009 => (if (r2008 : Int32) = 0 then (bnd2 (f_X10_bell Mw2009 z 4) fun r2019 Mw2020 => (bnd2 (f_X10_orderOf Mw2020 x 0) fun r2022 Mw2023 => (if (r2019 : Int32) = (r2022 : Int32) then (bnd2 (f_X10_orderOf Mw2023 x 2) fun r2033 Mw2034 => (if (r2033 : Int32) < ((r2002) - (r2005) : Int32) then (if (0 : Int32) = 0 then (if (0 : Int32) = 0 then (if (1 : Int32) = 0 then none else (bnd2 (f_X10_tuneFor Mw2034 z x) fun r2040 Mw2041 => (if (0 : Int32) = (if (r2040 : Int32) = 0 then (1 : Int32) else (0 : Int32) : Int32) then (lp_L_fits_70 n Mw2041 x ((u) + (0)) v (z + (-1))) else none))) else none) else none) else (bnd2 (f_X10_orderOf Mw2034 x 2) fun r2044 Mw2045 => (if (r2044 : Int32) < (-((r2002) - (r2005)) : Int32) then (if (0 : Int32) = 0 then (if (0 : Int32) = 0 then (if (1 : Int32) = 0 then none else (bnd2 (f_X10_tuneFor Mw2045 z x) fun r2051 Mw2052 => (if (0 : Int32) = (if (r2051 : Int32) = 0 then (1 : Int32) else (0 : Int32) : Int32) then (lp_L_fits_70 n Mw2052 x ((u) + (0)) v (z + (-1))) else none))) else none) else none) else (if (1 : Int32) = 0 then none else (if (1 : Int32) = 0 then none else (if (1 : Int32) = 0 then none else (bnd2 (f_X10_tuneFor Mw2045 z x) fun r2058 Mw2059 => (if (1 : Int32) = (if (r2058 : Int32) = 0 then (1 : Int32) else (0 : Int32) : Int32) then (lp_L_fits_70 n Mw2059 x ((u) + (1)) z (z + (-1))) else none))))))))) else (if (0 : Int32) = 0 then (if (0 : Int32) = 0 then (if (1 : Int32) = 0 then none else (bnd2 (f_X10_tuneFor Mw2023 z x) fun r2029 Mw2030 => (if (0 : Int32) = (if (r2029 : Int32) = 0 then (1 : Int32) else (0 : Int32) : Int32) then (lp_L_fits_70 n Mw2030 x ((u) + (0)) v (z + (-1))) else none))) else none) else none)))) else (if (0 : Int32) = 0 then (if (0 : Int32) = 0 then (if (1 : Int32) = 0 then none else (bnd2 (f_X10_tuneFor Mw2009 z x) fun r2015 Mw2016 => (if (0 : Int32) = (if (r2015 : Int32) = 0 then (1 : Int32) else (0 : Int32) : Int32) then (lp_L_fits_70 n Mw2016 x ((u) + (0)) v (z + (-1))) else none))) else none) else none))))))
def lp_L_fits_24 (fu : Nat) (M : MM) (u : Int32) (z : Int32) : Option (Int32 × MM) := match fu with
  | 0 => none
  | n + 1 => (bnd2 (f_X10_count M 5) fun r1001 Mw1002 => (if (r1001 : Int32) ≤ (z : Int32) then (if (1 : Int32) = 0 then none else (bnd2 (f_X10_count Mw1002 6) fun r1006 Mw1007 => (if (r1006 : Int32) = (u : Int32) then (if (8 : Int32) < (u : Int32) then none else some (1, Mw1007)) else none))) else (if (1 : Int32) = 0 then none else (bnd2 (f_X10_orderOf Mw1002 z 3) fun r1012 Mw1013 => (bnd2 (f_X10_count Mw1013 1) fun r1015 Mw1016 => (bnd3 (lp_L_fits_70 FU Mw1016 z 0 (-4) ((r1015) - (1))) fun y1018 y1019 Mw1020 => (if (1 : Int32) = 0 then none else (bnd2 (f_X10_orderOf Mw1020 z 4) fun r1023 Mw1024 => (if (r1023 : Int32) = (y1019 : Int32) then (bnd2 (f_X10_orderOf Mw1024 z 5) fun r1027 Mw1028 => (if (r1027 : Int32) = (y1018 : Int32) then (lp_L_fits_24 n Mw1028 ((u) + (if (r1012 : Int32) = 0 then (1 : Int32) else (0 : Int32))) (z + 1)) else none)) else none)))))))))
def f_L_fits (M : MM)  : Option (Int32 × MM) := (bnd2 (f_L_areBells M ) fun r1 Mw2 => (if (r1 : Int32) = 0 then none else (bnd2 (f_L_areMetals Mw2 ) fun r5 Mw6 => (if (r5 : Int32) = 0 then none else (lp_L_fits_24 FU Mw6 0 0)))))
set_option maxHeartbeats 4000000 in
set_option maxRecDepth 100000 in
theorem t_L_fits_70 (l : Launch) (g : GD) (q : Int32) {p : Program} {e : Env} {s : State} {m : MethodId} {av : Array Value} {below : List Frame} {meth : Method} {c : Code} {Q : State → Prop} (n : Nat) : ∀ (M : MM) (x : Int32) (u : Int32) (v : Int32) (z : Int32) (o0 : Int32) (o1 : Int32) (M2 : MM), lp_L_fits_70 n M x u v z = some (o0, o1, M2) → CX p s m av c cL_fits 9 RL g → ∀ (H : Heap) (locs : List Loc), Wd g M H → sU g s H locs → ∀ ls : Array Slot, lv_has ls 9 [(0, rf g (0)), (1, .int (q)), (2, .int (1)), (3, .int (x)), (4, .int (u)), (5, .int (v)), (6, .int (z))] → (∀ (H : Heap) (locs : List Loc), Wd g M2 H → sU g s H locs → ∀ ls : Array Slot, lv_has ls 9 [(0, rf g (0)), (1, .int (q)), (2, .int (1)), (3, .int (x)), (4, .int (o0)), (5, .int (o1))] → W p l e (RM 6 156) s m av below meth c H locs 0 0 Q (F0 m 213 ls [])) → W p l e (RM 6 156) s m av below meth c H locs 0 0 Q (F0 m 70 ls []) := by
  induction n with
  | zero => intro M x u v z o0 o1 M2 h; cases h
  | succ n ih0 =>
    intro M x u v z o0 o1 M2 h C H locs hW hS ls hl kx
    have ih : ∀ (M : MM) (x : Int32) (u : Int32) (v : Int32) (z : Int32), lp_L_fits_70 n M x u v z = some (o0, o1, M2) → ∀ (H : Heap) (locs : List Loc), Wd g M H → sU g s H locs → ∀ ls : Array Slot, lv_has ls 9 [(0, rf g (0)), (1, .int (q)), (2, .int (1)), (3, .int (x)), (4, .int (u)), (5, .int (v)), (6, .int (z))] → (∀ (H : Heap) (locs : List Loc), Wd g M2 H → sU g s H locs → ∀ ls : Array Slot, lv_has ls 9 [(0, rf g (0)), (1, .int (q)), (2, .int (1)), (3, .int (x)), (4, .int (o0)), (5, .int (o1))] → W p l e (RM 6 156) s m av below meth c H locs 0 0 Q (F0 m 213 ls [])) → W p l e (RM 6 156) s m av below meth c H locs 0 0 Q (F0 m 70 ls []) := fun M x u v z h H locs hW hS ls hl kx => ih0 M x u v z o0 o1 M2 h C H locs hW hS ls hl kx
    unfold lp_L_fits_70 at h
    try dsimp only at h
    have hx := C.1
    have hb := C.2.1
    have hts := C.2.2.2.2.1
    refine lv_iload hx hb dL_fits_70 (lv_at hl 6 rfl) ?_
    refine lv_if_lt (tgt := 213) hx hb dL_fits_72 (by decide) (fun c2001 => ?_) (fun c2001 => ?_)
    · rw [if_pos c2001] at h
      cases h
      exact kx _ _ hW hS ls (lv_sub hl [0, 1, 2, 3, 4, 5] rfl)
    · rw [if_neg c2001] at h
      refine lv_aload_n hx hb dL_fits_75 rfl (lv_at hl 0 rfl) ?_
      refine lv_iload hx hb dL_fits_76 (lv_at hl 6 rfl) ?_
      refine lv_iconst (v := 5) hx hb dL_fits_78 (by decide) ?_
      obtain ⟨r2002, Mw2003, h2004, h⟩ := bind2 h
      refine cBackC C.2.2.2.2.2.2.2.2 (runVU (As := [.int (z), .int (5)]) (rest := []) C hW hS (c_X10_bell l g M z 5 _ _ h2004) kV_X10_bell ml_L_26 (by decide) tm_BF rfl rfl rfl hl.1 rfl (Nat.le_of_ble_eq_true rfl) ⟨Nat.le_of_ble_eq_true rfl, Nat.le_of_ble_eq_true rfl⟩ ⟨Nat.zero_le _, Nat.zero_le _⟩ dL_fits_79) hS (fun v0 w0 H locs hp hW hS hq => ?_)
      obtain ⟨rfl, rfl⟩ := hp
      refine lv_aload_n hx hb dL_fits_82 rfl (lv_at hl 0 rfl) ?_
      refine lv_iload_n hx hb dL_fits_83 rfl (lv_at hl 3 rfl) ?_
      refine lv_iconst (v := 1) hx hb dL_fits_84 (by decide) ?_
      obtain ⟨r2005, Mw2006, h2007, h⟩ := bind2 h
      refine cBackC C.2.2.2.2.2.2.2.2 (runVU (As := [.int (x), .int (1)]) (rest := [.int (r2002)]) C hW hS (c_X10_orderOf l g Mw2003 x 1 _ _ h2007) kV_X10_orderOf ml_L_29 (by decide) tm_BF rfl rfl rfl hl.1 rfl (Nat.le_of_ble_eq_true rfl) ⟨Nat.le_of_ble_eq_true rfl, Nat.le_of_ble_eq_true rfl⟩ ⟨Nat.zero_le _, Nat.zero_le _⟩ dL_fits_85) hS (fun v0 w0 H locs hp hW hS hq => ?_)
      obtain ⟨rfl, rfl⟩ := hp
      refine lv_isub hx hb dL_fits_88 ?_
      refine lv_istore (lv' := [(7, .int ((r2002) - (r2005))), (0, rf g (0)), (1, .int (q)), (2, .int (1)), (3, .int (x)), (4, .int (u)), (5, .int (v)), (6, .int (z))]) hx hb dL_fits_89 hl (by decide) rfl (fun ls hl => ?_)
      refine lv_aload_n hx hb dL_fits_91 rfl (lv_at hl 1 rfl) ?_
      refine lv_iload hx hb dL_fits_92 (lv_at hl 7 rfl) ?_
      refine lv_bipush (v := 8) hx hb dL_fits_94 (by decide) ?_
      obtain ⟨r2008, Mw2009, h2010, h⟩ := bind2 h
      refine cBackC C.2.2.2.2.2.2.2.2 (runVU (As := [.int (z), .int (8)]) (rest := []) C hW hS (c_X10_bell l g Mw2006 z 8 _ _ h2010) kV_X10_bell ml_L_26 (by decide) tm_BF rfl rfl rfl hl.1 rfl (Nat.le_of_ble_eq_true rfl) ⟨Nat.le_of_ble_eq_true rfl, Nat.le_of_ble_eq_true rfl⟩ ⟨Nat.zero_le _, Nat.zero_le _⟩ dL_fits_96) hS (fun v0 w0 H locs hp hW hS hq => ?_)
      obtain ⟨rfl, rfl⟩ := hp
      refine lv_if_ne (tgt := 145) hx hb dL_fits_99 (by decide) (fun c2011 => ?_) (fun c2011 => ?_)
      · rw [if_neg c2011] at h
        refine lv_iconst (v := 0) hx hb dL_fits_145 (by decide) ?_
        refine lv_istore (lv' := [(8, .int (0)), (7, .int ((r2002) - (r2005))), (0, rf g (0)), (1, .int (q)), (2, .int (1)), (3, .int (x)), (4, .int (u)), (5, .int (v)), (6, .int (z))]) hx hb dL_fits_146 hl (by decide) rfl (fun ls hl => ?_)
        refine lv_iload hx hb dL_fits_148 (lv_at hl 6 rfl) ?_
        refine lv_iload hx hb dL_fits_150 (lv_at hl 0 rfl) ?_
        refine lv_if_eq (tgt := 159) hx hb dL_fits_152 (by decide) (fun c2012 => ?_) (fun c2012 => ?_)
        · rw [if_pos c2012] at h
          refine lv_iconst (v := 0) hx hb dL_fits_159 (by decide) ?_
          refine lv_iadd hx hb dL_fits_160 ?_
          refine lv_istore (lv' := [(4, .int ((u) + (0))), (8, .int (0)), (7, .int ((r2002) - (r2005))), (0, rf g (0)), (1, .int (q)), (2, .int (1)), (3, .int (x)), (5, .int (v)), (6, .int (z))]) hx hb dL_fits_161 hl (by decide) rfl (fun ls hl => ?_)
          refine lv_iload hx hb dL_fits_163 (lv_at hl 1 rfl) ?_
          refine lv_if_eq (tgt := 173) hx hb dL_fits_165 (by decide) (fun c2013 => ?_) (fun c2013 => ?_)
          · rw [if_pos c2013] at h
            refine lv_iload hx hb dL_fits_173 (lv_at hl 7 rfl) ?_
            refine lv_istore (lv' := [(5, .int (v)), (4, .int ((u) + (0))), (8, .int (0)), (7, .int ((r2002) - (r2005))), (0, rf g (0)), (1, .int (q)), (2, .int (1)), (3, .int (x)), (6, .int (z))]) hx hb dL_fits_175 hl (by decide) rfl (fun ls hl => ?_)
            refine lv_iload_n hx hb dL_fits_177 rfl (lv_at hl 6 rfl) ?_
            refine lv_if_eq (tgt := 205) hx hb dL_fits_178 (by decide) (fun c2014 => ?_) (fun c2014 => ?_)
            · rw [if_pos c2014] at h
              cases h
            · rw [if_neg c2014] at h
              refine lv_iload hx hb dL_fits_181 (lv_at hl 2 rfl) ?_
              refine lv_aload_n hx hb dL_fits_183 rfl (lv_at hl 4 rfl) ?_
              refine lv_iload hx hb dL_fits_184 (lv_at hl 8 rfl) ?_
              refine lv_iload_n hx hb dL_fits_186 rfl (lv_at hl 7 rfl) ?_
              obtain ⟨r2015, Mw2016, h2017, h⟩ := bind2 h
              refine cBackC C.2.2.2.2.2.2.2.2 (runVU (As := [.int (z), .int (x)]) (rest := [.int (0)]) C hW hS (c_X10_tuneFor l g Mw2009 z x _ _ h2017) kV_X10_tuneFor ml_L_72 (by decide) tm_BF rfl rfl rfl hl.1 rfl (Nat.le_of_ble_eq_true rfl) ⟨Nat.le_of_ble_eq_true rfl, Nat.le_of_ble_eq_true rfl⟩ ⟨Nat.zero_le _, Nat.zero_le _⟩ dL_fits_187) hS (fun v0 w0 H locs hp hW hS hq => ?_)
              obtain ⟨rfl, rfl⟩ := hp
              refine diaF (P := (r2015 : Int32) = 0) (A := 1) (B := 0) (F := fun z9 => W p l e (RM 6 156) s m av below meth c H locs 0 0 Q (F0 m 198 ls [.int z9, .int (0)])) (fun a9 b9 => lv_if_ne (tgt := 197) hx hb dL_fits_190 (by decide) a9 b9) (fun k9 => ?_) (fun k9 => ?_) ?_
              · refine lv_iconst (v := 0) hx hb dL_fits_197 (by decide) ?_
                exact k9
              · refine lv_iconst (v := 1) hx hb dL_fits_193 (by decide) ?_
                refine lv_goto (tgt := 198) hx hb dL_fits_194 (by decide) ?_
                exact k9
              refine lv_icmp_ne (tgt := 205) hx hb dL_fits_198 (by decide) (fun c2018 => ?_) (fun c2018 => ?_)
              · rw [if_neg c2018] at h
                refine lv_iconst (v := 0) hx hb dL_fits_205 (by decide) ?_
                cases h
              · rw [if_pos c2018] at h
                refine lv_iconst (v := 1) hx hb dL_fits_201 (by decide) ?_
                refine lv_goto (tgt := 206) hx hb dL_fits_202 (by decide) ?_
                refine lv_istore_n (lv' := [(2, .int (1)), (5, .int (v)), (4, .int ((u) + (0))), (8, .int (0)), (7, .int ((r2002) - (r2005))), (0, rf g (0)), (1, .int (q)), (3, .int (x)), (6, .int (z))]) hx hb dL_fits_206 rfl hl (by decide) rfl (fun ls hl => ?_)
                refine lv_iinc (v := z + (-1)) (lv' := [(6, .int (z + (-1))), (2, .int (1)), (5, .int (v)), (4, .int ((u) + (0))), (8, .int (0)), (7, .int ((r2002) - (r2005))), (0, rf g (0)), (1, .int (q)), (3, .int (x))]) hx hb dL_fits_207 hl (k := 8) rfl rfl (by decide) rfl (fun ls hl => ?_)
                refine lv_goto (tgt := 70) hx hb dL_fits_210 (by decide) ?_
                exact ih Mw2016 x ((u) + (0)) v (z + (-1)) h _ _ hW hS ls (lv_sub hl [6, 7, 1, 8, 3, 2, 0] rfl) kx
          · rw [if_neg c2013] at h
            cases h
        · rw [if_neg c2012] at h
          cases h
      · rw [if_pos c2011] at h
        refine lv_aload_n hx hb dL_fits_102 rfl (lv_at hl 1 rfl) ?_
        refine lv_iload hx hb dL_fits_103 (lv_at hl 7 rfl) ?_
        refine lv_iconst (v := 4) hx hb dL_fits_105 (by decide) ?_
        obtain ⟨r2019, Mw2020, h2021, h⟩ := bind2 h
        refine cBackC C.2.2.2.2.2.2.2.2 (runVU (As := [.int (z), .int (4)]) (rest := []) C hW hS (c_X10_bell l g Mw2009 z 4 _ _ h2021) kV_X10_bell ml_L_26 (by decide) tm_BF rfl rfl rfl hl.1 rfl (Nat.le_of_ble_eq_true rfl) ⟨Nat.le_of_ble_eq_true rfl, Nat.le_of_ble_eq_true rfl⟩ ⟨Nat.zero_le _, Nat.zero_le _⟩ dL_fits_106) hS (fun v0 w0 H locs hp hW hS hq => ?_)
        obtain ⟨rfl, rfl⟩ := hp
        refine lv_aload_n hx hb dL_fits_109 rfl (lv_at hl 1 rfl) ?_
        refine lv_iload_n hx hb dL_fits_110 rfl (lv_at hl 4 rfl) ?_
        refine lv_iconst (v := 0) hx hb dL_fits_111 (by decide) ?_
        obtain ⟨r2022, Mw2023, h2024, h⟩ := bind2 h
        refine cBackC C.2.2.2.2.2.2.2.2 (runVU (As := [.int (x), .int (0)]) (rest := [.int (r2019)]) C hW hS (c_X10_orderOf l g Mw2020 x 0 _ _ h2024) kV_X10_orderOf ml_L_29 (by decide) tm_BF rfl rfl rfl hl.1 rfl (Nat.le_of_ble_eq_true rfl) ⟨Nat.le_of_ble_eq_true rfl, Nat.le_of_ble_eq_true rfl⟩ ⟨Nat.zero_le _, Nat.zero_le _⟩ dL_fits_112) hS (fun v0 w0 H locs hp hW hS hq => ?_)
        obtain ⟨rfl, rfl⟩ := hp
        refine lv_icmp_ne (tgt := 145) hx hb dL_fits_115 (by decide) (fun c2025 => ?_) (fun c2025 => ?_)
        · rw [if_neg c2025] at h
          refine lv_iconst (v := 0) hx hb dL_fits_145 (by decide) ?_
          refine lv_istore (lv' := [(8, .int (0)), (7, .int ((r2002) - (r2005))), (0, rf g (0)), (1, .int (q)), (2, .int (1)), (3, .int (x)), (4, .int (u)), (5, .int (v)), (6, .int (z))]) hx hb dL_fits_146 hl (by decide) rfl (fun ls hl => ?_)
          refine lv_iload hx hb dL_fits_148 (lv_at hl 6 rfl) ?_
          refine lv_iload hx hb dL_fits_150 (lv_at hl 0 rfl) ?_
          refine lv_if_eq (tgt := 159) hx hb dL_fits_152 (by decide) (fun c2026 => ?_) (fun c2026 => ?_)
          · rw [if_pos c2026] at h
            refine lv_iconst (v := 0) hx hb dL_fits_159 (by decide) ?_
            refine lv_iadd hx hb dL_fits_160 ?_
            refine lv_istore (lv' := [(4, .int ((u) + (0))), (8, .int (0)), (7, .int ((r2002) - (r2005))), (0, rf g (0)), (1, .int (q)), (2, .int (1)), (3, .int (x)), (5, .int (v)), (6, .int (z))]) hx hb dL_fits_161 hl (by decide) rfl (fun ls hl => ?_)
            refine lv_iload hx hb dL_fits_163 (lv_at hl 1 rfl) ?_
            refine lv_if_eq (tgt := 173) hx hb dL_fits_165 (by decide) (fun c2027 => ?_) (fun c2027 => ?_)
            · rw [if_pos c2027] at h
              refine lv_iload hx hb dL_fits_173 (lv_at hl 7 rfl) ?_
              refine lv_istore (lv' := [(5, .int (v)), (4, .int ((u) + (0))), (8, .int (0)), (7, .int ((r2002) - (r2005))), (0, rf g (0)), (1, .int (q)), (2, .int (1)), (3, .int (x)), (6, .int (z))]) hx hb dL_fits_175 hl (by decide) rfl (fun ls hl => ?_)
              refine lv_iload_n hx hb dL_fits_177 rfl (lv_at hl 6 rfl) ?_
              refine lv_if_eq (tgt := 205) hx hb dL_fits_178 (by decide) (fun c2028 => ?_) (fun c2028 => ?_)
              · rw [if_pos c2028] at h
                cases h
              · rw [if_neg c2028] at h
                refine lv_iload hx hb dL_fits_181 (lv_at hl 2 rfl) ?_
                refine lv_aload_n hx hb dL_fits_183 rfl (lv_at hl 4 rfl) ?_
                refine lv_iload hx hb dL_fits_184 (lv_at hl 8 rfl) ?_
                refine lv_iload_n hx hb dL_fits_186 rfl (lv_at hl 7 rfl) ?_
                obtain ⟨r2029, Mw2030, h2031, h⟩ := bind2 h
                refine cBackC C.2.2.2.2.2.2.2.2 (runVU (As := [.int (z), .int (x)]) (rest := [.int (0)]) C hW hS (c_X10_tuneFor l g Mw2023 z x _ _ h2031) kV_X10_tuneFor ml_L_72 (by decide) tm_BF rfl rfl rfl hl.1 rfl (Nat.le_of_ble_eq_true rfl) ⟨Nat.le_of_ble_eq_true rfl, Nat.le_of_ble_eq_true rfl⟩ ⟨Nat.zero_le _, Nat.zero_le _⟩ dL_fits_187) hS (fun v0 w0 H locs hp hW hS hq => ?_)
                obtain ⟨rfl, rfl⟩ := hp
                refine diaF (P := (r2029 : Int32) = 0) (A := 1) (B := 0) (F := fun z9 => W p l e (RM 6 156) s m av below meth c H locs 0 0 Q (F0 m 198 ls [.int z9, .int (0)])) (fun a9 b9 => lv_if_ne (tgt := 197) hx hb dL_fits_190 (by decide) a9 b9) (fun k9 => ?_) (fun k9 => ?_) ?_
                · refine lv_iconst (v := 0) hx hb dL_fits_197 (by decide) ?_
                  exact k9
                · refine lv_iconst (v := 1) hx hb dL_fits_193 (by decide) ?_
                  refine lv_goto (tgt := 198) hx hb dL_fits_194 (by decide) ?_
                  exact k9
                refine lv_icmp_ne (tgt := 205) hx hb dL_fits_198 (by decide) (fun c2032 => ?_) (fun c2032 => ?_)
                · rw [if_neg c2032] at h
                  refine lv_iconst (v := 0) hx hb dL_fits_205 (by decide) ?_
                  cases h
                · rw [if_pos c2032] at h
                  refine lv_iconst (v := 1) hx hb dL_fits_201 (by decide) ?_
                  refine lv_goto (tgt := 206) hx hb dL_fits_202 (by decide) ?_
                  refine lv_istore_n (lv' := [(2, .int (1)), (5, .int (v)), (4, .int ((u) + (0))), (8, .int (0)), (7, .int ((r2002) - (r2005))), (0, rf g (0)), (1, .int (q)), (3, .int (x)), (6, .int (z))]) hx hb dL_fits_206 rfl hl (by decide) rfl (fun ls hl => ?_)
                  refine lv_iinc (v := z + (-1)) (lv' := [(6, .int (z + (-1))), (2, .int (1)), (5, .int (v)), (4, .int ((u) + (0))), (8, .int (0)), (7, .int ((r2002) - (r2005))), (0, rf g (0)), (1, .int (q)), (3, .int (x))]) hx hb dL_fits_207 hl (k := 8) rfl rfl (by decide) rfl (fun ls hl => ?_)
                  refine lv_goto (tgt := 70) hx hb dL_fits_210 (by decide) ?_
                  exact ih Mw2030 x ((u) + (0)) v (z + (-1)) h _ _ hW hS ls (lv_sub hl [6, 7, 1, 8, 3, 2, 0] rfl) kx
            · rw [if_neg c2027] at h
              cases h
          · rw [if_neg c2026] at h
            cases h
        · rw [if_pos c2025] at h
          refine lv_iload hx hb dL_fits_118 (lv_at hl 0 rfl) ?_
          refine lv_aload_n hx hb dL_fits_120 rfl (lv_at hl 1 rfl) ?_
          refine lv_iload_n hx hb dL_fits_121 rfl (lv_at hl 4 rfl) ?_
          refine lv_iconst (v := 2) hx hb dL_fits_122 (by decide) ?_
          obtain ⟨r2033, Mw2034, h2035, h⟩ := bind2 h
          refine cBackC C.2.2.2.2.2.2.2.2 (runVU (As := [.int (x), .int (2)]) (rest := [.int ((r2002) - (r2005))]) C hW hS (c_X10_orderOf l g Mw2023 x 2 _ _ h2035) kV_X10_orderOf ml_L_29 (by decide) tm_BF rfl rfl rfl hl.1 rfl (Nat.le_of_ble_eq_true rfl) ⟨Nat.le_of_ble_eq_true rfl, Nat.le_of_ble_eq_true rfl⟩ ⟨Nat.zero_le _, Nat.zero_le _⟩ dL_fits_123) hS (fun v0 w0 H locs hp hW hS hq => ?_)
          obtain ⟨rfl, rfl⟩ := hp
          refine lv_icmp_gt (tgt := 145) hx hb dL_fits_126 (by decide) (fun c2036 => ?_) (fun c2036 => ?_)
          · rw [if_pos c2036] at h
            refine lv_iconst (v := 0) hx hb dL_fits_145 (by decide) ?_
            refine lv_istore (lv' := [(8, .int (0)), (7, .int ((r2002) - (r2005))), (0, rf g (0)), (1, .int (q)), (2, .int (1)), (3, .int (x)), (4, .int (u)), (5, .int (v)), (6, .int (z))]) hx hb dL_fits_146 hl (by decide) rfl (fun ls hl => ?_)
            refine lv_iload hx hb dL_fits_148 (lv_at hl 6 rfl) ?_
            refine lv_iload hx hb dL_fits_150 (lv_at hl 0 rfl) ?_
            refine lv_if_eq (tgt := 159) hx hb dL_fits_152 (by decide) (fun c2037 => ?_) (fun c2037 => ?_)
            · rw [if_pos c2037] at h
              refine lv_iconst (v := 0) hx hb dL_fits_159 (by decide) ?_
              refine lv_iadd hx hb dL_fits_160 ?_
              refine lv_istore (lv' := [(4, .int ((u) + (0))), (8, .int (0)), (7, .int ((r2002) - (r2005))), (0, rf g (0)), (1, .int (q)), (2, .int (1)), (3, .int (x)), (5, .int (v)), (6, .int (z))]) hx hb dL_fits_161 hl (by decide) rfl (fun ls hl => ?_)
              refine lv_iload hx hb dL_fits_163 (lv_at hl 1 rfl) ?_
              refine lv_if_eq (tgt := 173) hx hb dL_fits_165 (by decide) (fun c2038 => ?_) (fun c2038 => ?_)
              · rw [if_pos c2038] at h
                refine lv_iload hx hb dL_fits_173 (lv_at hl 7 rfl) ?_
                refine lv_istore (lv' := [(5, .int (v)), (4, .int ((u) + (0))), (8, .int (0)), (7, .int ((r2002) - (r2005))), (0, rf g (0)), (1, .int (q)), (2, .int (1)), (3, .int (x)), (6, .int (z))]) hx hb dL_fits_175 hl (by decide) rfl (fun ls hl => ?_)
                refine lv_iload_n hx hb dL_fits_177 rfl (lv_at hl 6 rfl) ?_
                refine lv_if_eq (tgt := 205) hx hb dL_fits_178 (by decide) (fun c2039 => ?_) (fun c2039 => ?_)
                · rw [if_pos c2039] at h
                  cases h
                · rw [if_neg c2039] at h
                  refine lv_iload hx hb dL_fits_181 (lv_at hl 2 rfl) ?_
                  refine lv_aload_n hx hb dL_fits_183 rfl (lv_at hl 4 rfl) ?_
                  refine lv_iload hx hb dL_fits_184 (lv_at hl 8 rfl) ?_
                  refine lv_iload_n hx hb dL_fits_186 rfl (lv_at hl 7 rfl) ?_
                  obtain ⟨r2040, Mw2041, h2042, h⟩ := bind2 h
                  refine cBackC C.2.2.2.2.2.2.2.2 (runVU (As := [.int (z), .int (x)]) (rest := [.int (0)]) C hW hS (c_X10_tuneFor l g Mw2034 z x _ _ h2042) kV_X10_tuneFor ml_L_72 (by decide) tm_BF rfl rfl rfl hl.1 rfl (Nat.le_of_ble_eq_true rfl) ⟨Nat.le_of_ble_eq_true rfl, Nat.le_of_ble_eq_true rfl⟩ ⟨Nat.zero_le _, Nat.zero_le _⟩ dL_fits_187) hS (fun v0 w0 H locs hp hW hS hq => ?_)
                  obtain ⟨rfl, rfl⟩ := hp
                  refine diaF (P := (r2040 : Int32) = 0) (A := 1) (B := 0) (F := fun z9 => W p l e (RM 6 156) s m av below meth c H locs 0 0 Q (F0 m 198 ls [.int z9, .int (0)])) (fun a9 b9 => lv_if_ne (tgt := 197) hx hb dL_fits_190 (by decide) a9 b9) (fun k9 => ?_) (fun k9 => ?_) ?_
                  · refine lv_iconst (v := 0) hx hb dL_fits_197 (by decide) ?_
                    exact k9
                  · refine lv_iconst (v := 1) hx hb dL_fits_193 (by decide) ?_
                    refine lv_goto (tgt := 198) hx hb dL_fits_194 (by decide) ?_
                    exact k9
                  refine lv_icmp_ne (tgt := 205) hx hb dL_fits_198 (by decide) (fun c2043 => ?_) (fun c2043 => ?_)
                  · rw [if_neg c2043] at h
                    refine lv_iconst (v := 0) hx hb dL_fits_205 (by decide) ?_
                    cases h
                  · rw [if_pos c2043] at h
                    refine lv_iconst (v := 1) hx hb dL_fits_201 (by decide) ?_
                    refine lv_goto (tgt := 206) hx hb dL_fits_202 (by decide) ?_
                    refine lv_istore_n (lv' := [(2, .int (1)), (5, .int (v)), (4, .int ((u) + (0))), (8, .int (0)), (7, .int ((r2002) - (r2005))), (0, rf g (0)), (1, .int (q)), (3, .int (x)), (6, .int (z))]) hx hb dL_fits_206 rfl hl (by decide) rfl (fun ls hl => ?_)
                    refine lv_iinc (v := z + (-1)) (lv' := [(6, .int (z + (-1))), (2, .int (1)), (5, .int (v)), (4, .int ((u) + (0))), (8, .int (0)), (7, .int ((r2002) - (r2005))), (0, rf g (0)), (1, .int (q)), (3, .int (x))]) hx hb dL_fits_207 hl (k := 8) rfl rfl (by decide) rfl (fun ls hl => ?_)
                    refine lv_goto (tgt := 70) hx hb dL_fits_210 (by decide) ?_
                    exact ih Mw2041 x ((u) + (0)) v (z + (-1)) h _ _ hW hS ls (lv_sub hl [6, 7, 1, 8, 3, 2, 0] rfl) kx
              · rw [if_neg c2038] at h
                cases h
            · rw [if_neg c2037] at h
              cases h
          · rw [if_neg c2036] at h
            refine lv_iload hx hb dL_fits_129 (lv_at hl 0 rfl) ?_
            refine lv_ineg hx hb dL_fits_131 ?_
            refine lv_aload_n hx hb dL_fits_132 rfl (lv_at hl 1 rfl) ?_
            refine lv_iload_n hx hb dL_fits_133 rfl (lv_at hl 4 rfl) ?_
            refine lv_iconst (v := 2) hx hb dL_fits_134 (by decide) ?_
            obtain ⟨r2044, Mw2045, h2046, h⟩ := bind2 h
            refine cBackC C.2.2.2.2.2.2.2.2 (runVU (As := [.int (x), .int (2)]) (rest := [.int (-((r2002) - (r2005)))]) C hW hS (c_X10_orderOf l g Mw2034 x 2 _ _ h2046) kV_X10_orderOf ml_L_29 (by decide) tm_BF rfl rfl rfl hl.1 rfl (Nat.le_of_ble_eq_true rfl) ⟨Nat.le_of_ble_eq_true rfl, Nat.le_of_ble_eq_true rfl⟩ ⟨Nat.zero_le _, Nat.zero_le _⟩ dL_fits_135) hS (fun v0 w0 H locs hp hW hS hq => ?_)
            obtain ⟨rfl, rfl⟩ := hp
            refine lv_icmp_gt (tgt := 145) hx hb dL_fits_138 (by decide) (fun c2047 => ?_) (fun c2047 => ?_)
            · rw [if_pos c2047] at h
              refine lv_iconst (v := 0) hx hb dL_fits_145 (by decide) ?_
              refine lv_istore (lv' := [(8, .int (0)), (7, .int ((r2002) - (r2005))), (0, rf g (0)), (1, .int (q)), (2, .int (1)), (3, .int (x)), (4, .int (u)), (5, .int (v)), (6, .int (z))]) hx hb dL_fits_146 hl (by decide) rfl (fun ls hl => ?_)
              refine lv_iload hx hb dL_fits_148 (lv_at hl 6 rfl) ?_
              refine lv_iload hx hb dL_fits_150 (lv_at hl 0 rfl) ?_
              refine lv_if_eq (tgt := 159) hx hb dL_fits_152 (by decide) (fun c2048 => ?_) (fun c2048 => ?_)
              · rw [if_pos c2048] at h
                refine lv_iconst (v := 0) hx hb dL_fits_159 (by decide) ?_
                refine lv_iadd hx hb dL_fits_160 ?_
                refine lv_istore (lv' := [(4, .int ((u) + (0))), (8, .int (0)), (7, .int ((r2002) - (r2005))), (0, rf g (0)), (1, .int (q)), (2, .int (1)), (3, .int (x)), (5, .int (v)), (6, .int (z))]) hx hb dL_fits_161 hl (by decide) rfl (fun ls hl => ?_)
                refine lv_iload hx hb dL_fits_163 (lv_at hl 1 rfl) ?_
                refine lv_if_eq (tgt := 173) hx hb dL_fits_165 (by decide) (fun c2049 => ?_) (fun c2049 => ?_)
                · rw [if_pos c2049] at h
                  refine lv_iload hx hb dL_fits_173 (lv_at hl 7 rfl) ?_
                  refine lv_istore (lv' := [(5, .int (v)), (4, .int ((u) + (0))), (8, .int (0)), (7, .int ((r2002) - (r2005))), (0, rf g (0)), (1, .int (q)), (2, .int (1)), (3, .int (x)), (6, .int (z))]) hx hb dL_fits_175 hl (by decide) rfl (fun ls hl => ?_)
                  refine lv_iload_n hx hb dL_fits_177 rfl (lv_at hl 6 rfl) ?_
                  refine lv_if_eq (tgt := 205) hx hb dL_fits_178 (by decide) (fun c2050 => ?_) (fun c2050 => ?_)
                  · rw [if_pos c2050] at h
                    cases h
                  · rw [if_neg c2050] at h
                    refine lv_iload hx hb dL_fits_181 (lv_at hl 2 rfl) ?_
                    refine lv_aload_n hx hb dL_fits_183 rfl (lv_at hl 4 rfl) ?_
                    refine lv_iload hx hb dL_fits_184 (lv_at hl 8 rfl) ?_
                    refine lv_iload_n hx hb dL_fits_186 rfl (lv_at hl 7 rfl) ?_
                    obtain ⟨r2051, Mw2052, h2053, h⟩ := bind2 h
                    refine cBackC C.2.2.2.2.2.2.2.2 (runVU (As := [.int (z), .int (x)]) (rest := [.int (0)]) C hW hS (c_X10_tuneFor l g Mw2045 z x _ _ h2053) kV_X10_tuneFor ml_L_72 (by decide) tm_BF rfl rfl rfl hl.1 rfl (Nat.le_of_ble_eq_true rfl) ⟨Nat.le_of_ble_eq_true rfl, Nat.le_of_ble_eq_true rfl⟩ ⟨Nat.zero_le _, Nat.zero_le _⟩ dL_fits_187) hS (fun v0 w0 H locs hp hW hS hq => ?_)
                    obtain ⟨rfl, rfl⟩ := hp
                    refine diaF (P := (r2051 : Int32) = 0) (A := 1) (B := 0) (F := fun z9 => W p l e (RM 6 156) s m av below meth c H locs 0 0 Q (F0 m 198 ls [.int z9, .int (0)])) (fun a9 b9 => lv_if_ne (tgt := 197) hx hb dL_fits_190 (by decide) a9 b9) (fun k9 => ?_) (fun k9 => ?_) ?_
                    · refine lv_iconst (v := 0) hx hb dL_fits_197 (by decide) ?_
                      exact k9
                    · refine lv_iconst (v := 1) hx hb dL_fits_193 (by decide) ?_
                      refine lv_goto (tgt := 198) hx hb dL_fits_194 (by decide) ?_
                      exact k9
                    refine lv_icmp_ne (tgt := 205) hx hb dL_fits_198 (by decide) (fun c2054 => ?_) (fun c2054 => ?_)
                    · rw [if_neg c2054] at h
                      refine lv_iconst (v := 0) hx hb dL_fits_205 (by decide) ?_
                      cases h
                    · rw [if_pos c2054] at h
                      refine lv_iconst (v := 1) hx hb dL_fits_201 (by decide) ?_
                      refine lv_goto (tgt := 206) hx hb dL_fits_202 (by decide) ?_
                      refine lv_istore_n (lv' := [(2, .int (1)), (5, .int (v)), (4, .int ((u) + (0))), (8, .int (0)), (7, .int ((r2002) - (r2005))), (0, rf g (0)), (1, .int (q)), (3, .int (x)), (6, .int (z))]) hx hb dL_fits_206 rfl hl (by decide) rfl (fun ls hl => ?_)
                      refine lv_iinc (v := z + (-1)) (lv' := [(6, .int (z + (-1))), (2, .int (1)), (5, .int (v)), (4, .int ((u) + (0))), (8, .int (0)), (7, .int ((r2002) - (r2005))), (0, rf g (0)), (1, .int (q)), (3, .int (x))]) hx hb dL_fits_207 hl (k := 8) rfl rfl (by decide) rfl (fun ls hl => ?_)
                      refine lv_goto (tgt := 70) hx hb dL_fits_210 (by decide) ?_
                      exact ih Mw2052 x ((u) + (0)) v (z + (-1)) h _ _ hW hS ls (lv_sub hl [6, 7, 1, 8, 3, 2, 0] rfl) kx
                · rw [if_neg c2049] at h
                  cases h
              · rw [if_neg c2048] at h
                cases h
            · rw [if_neg c2047] at h
              refine lv_iconst (v := 1) hx hb dL_fits_141 (by decide) ?_
              refine lv_goto (tgt := 146) hx hb dL_fits_142 (by decide) ?_
              refine lv_istore (lv' := [(8, .int (1)), (7, .int ((r2002) - (r2005))), (0, rf g (0)), (1, .int (q)), (2, .int (1)), (3, .int (x)), (4, .int (u)), (5, .int (v)), (6, .int (z))]) hx hb dL_fits_146 hl (by decide) rfl (fun ls hl => ?_)
              refine lv_iload hx hb dL_fits_148 (lv_at hl 6 rfl) ?_
              refine lv_iload hx hb dL_fits_150 (lv_at hl 0 rfl) ?_
              refine lv_if_eq (tgt := 159) hx hb dL_fits_152 (by decide) (fun c2055 => ?_) (fun c2055 => ?_)
              · rw [if_pos c2055] at h
                cases h
              · rw [if_neg c2055] at h
                refine lv_iconst (v := 1) hx hb dL_fits_155 (by decide) ?_
                refine lv_goto (tgt := 160) hx hb dL_fits_156 (by decide) ?_
                refine lv_iadd hx hb dL_fits_160 ?_
                refine lv_istore (lv' := [(4, .int ((u) + (1))), (8, .int (1)), (7, .int ((r2002) - (r2005))), (0, rf g (0)), (1, .int (q)), (2, .int (1)), (3, .int (x)), (5, .int (v)), (6, .int (z))]) hx hb dL_fits_161 hl (by decide) rfl (fun ls hl => ?_)
                refine lv_iload hx hb dL_fits_163 (lv_at hl 1 rfl) ?_
                refine lv_if_eq (tgt := 173) hx hb dL_fits_165 (by decide) (fun c2056 => ?_) (fun c2056 => ?_)
                · rw [if_pos c2056] at h
                  cases h
                · rw [if_neg c2056] at h
                  refine lv_iload hx hb dL_fits_168 (lv_at hl 8 rfl) ?_
                  refine lv_goto (tgt := 175) hx hb dL_fits_170 (by decide) ?_
                  refine lv_istore (lv' := [(5, .int (z)), (4, .int ((u) + (1))), (8, .int (1)), (7, .int ((r2002) - (r2005))), (0, rf g (0)), (1, .int (q)), (2, .int (1)), (3, .int (x)), (6, .int (z))]) hx hb dL_fits_175 hl (by decide) rfl (fun ls hl => ?_)
                  refine lv_iload_n hx hb dL_fits_177 rfl (lv_at hl 6 rfl) ?_
                  refine lv_if_eq (tgt := 205) hx hb dL_fits_178 (by decide) (fun c2057 => ?_) (fun c2057 => ?_)
                  · rw [if_pos c2057] at h
                    cases h
                  · rw [if_neg c2057] at h
                    refine lv_iload hx hb dL_fits_181 (lv_at hl 2 rfl) ?_
                    refine lv_aload_n hx hb dL_fits_183 rfl (lv_at hl 4 rfl) ?_
                    refine lv_iload hx hb dL_fits_184 (lv_at hl 8 rfl) ?_
                    refine lv_iload_n hx hb dL_fits_186 rfl (lv_at hl 7 rfl) ?_
                    obtain ⟨r2058, Mw2059, h2060, h⟩ := bind2 h
                    refine cBackC C.2.2.2.2.2.2.2.2 (runVU (As := [.int (z), .int (x)]) (rest := [.int (1)]) C hW hS (c_X10_tuneFor l g Mw2045 z x _ _ h2060) kV_X10_tuneFor ml_L_72 (by decide) tm_BF rfl rfl rfl hl.1 rfl (Nat.le_of_ble_eq_true rfl) ⟨Nat.le_of_ble_eq_true rfl, Nat.le_of_ble_eq_true rfl⟩ ⟨Nat.zero_le _, Nat.zero_le _⟩ dL_fits_187) hS (fun v0 w0 H locs hp hW hS hq => ?_)
                    obtain ⟨rfl, rfl⟩ := hp
                    refine diaF (P := (r2058 : Int32) = 0) (A := 1) (B := 0) (F := fun z9 => W p l e (RM 6 156) s m av below meth c H locs 0 0 Q (F0 m 198 ls [.int z9, .int (1)])) (fun a9 b9 => lv_if_ne (tgt := 197) hx hb dL_fits_190 (by decide) a9 b9) (fun k9 => ?_) (fun k9 => ?_) ?_
                    · refine lv_iconst (v := 0) hx hb dL_fits_197 (by decide) ?_
                      exact k9
                    · refine lv_iconst (v := 1) hx hb dL_fits_193 (by decide) ?_
                      refine lv_goto (tgt := 198) hx hb dL_fits_194 (by decide) ?_
                      exact k9
                    refine lv_icmp_ne (tgt := 205) hx hb dL_fits_198 (by decide) (fun c2061 => ?_) (fun c2061 => ?_)
                    · rw [if_neg c2061] at h
                      refine lv_iconst (v := 0) hx hb dL_fits_205 (by decide) ?_
                      cases h
                    · rw [if_pos c2061] at h
                      refine lv_iconst (v := 1) hx hb dL_fits_201 (by decide) ?_
                      refine lv_goto (tgt := 206) hx hb dL_fits_202 (by decide) ?_
                      refine lv_istore_n (lv' := [(2, .int (1)), (5, .int (z)), (4, .int ((u) + (1))), (8, .int (1)), (7, .int ((r2002) - (r2005))), (0, rf g (0)), (1, .int (q)), (3, .int (x)), (6, .int (z))]) hx hb dL_fits_206 rfl hl (by decide) rfl (fun ls hl => ?_)
                      refine lv_iinc (v := z + (-1)) (lv' := [(6, .int (z + (-1))), (2, .int (1)), (5, .int (z)), (4, .int ((u) + (1))), (8, .int (1)), (7, .int ((r2002) - (r2005))), (0, rf g (0)), (1, .int (q)), (3, .int (x))]) hx hb dL_fits_207 hl (k := 8) rfl rfl (by decide) rfl (fun ls hl => ?_)
                      refine lv_goto (tgt := 70) hx hb dL_fits_210 (by decide) ?_
                      exact ih Mw2059 x ((u) + (1)) z (z + (-1)) h _ _ hW hS ls (lv_sub hl [6, 7, 1, 8, 3, 2, 0] rfl) kx
set_option maxHeartbeats 4000000 in
set_option maxRecDepth 100000 in
theorem t_L_fits_24 (l : Launch) (g : GD)  {p : Program} {e : Env} {s : State} {m : MethodId} {av : Array Value} {below : List Frame} {meth : Method} {c : Code} (n : Nat) : ∀ (M : MM) (u : Int32) (z : Int32) (r : Int32) (M2 : MM), lp_L_fits_24 n M u z = some (r, M2) → CX p s m av c cL_fits 9 RL g → meth.sig.returnType = (some .boolean) → meth.locks = false → ∀ (H : Heap) (locs : List Loc), Wd g M H → sU g s H locs → ∀ ls : Array Slot, lv_has ls 9 [(0, rf g (0)), (1, .int (u)), (2, .int (1)), (3, .int (z))] → W p l e (RM 6 156) s m av below meth c H locs 0 0 (MQ below (QU g (fun v w0 => v = .int r ∧ M2 = w0)) av s 0 0 (AU g)) (F0 m 24 ls []) := by
  induction n with
  | zero => intro M u z r M2 h; cases h
  | succ n ih0 =>
    intro M u z r M2 h C hr hlk H locs hW hS ls hl
    have ih : ∀ (M : MM) (u : Int32) (z : Int32), lp_L_fits_24 n M u z = some (r, M2) → ∀ (H : Heap) (locs : List Loc), Wd g M H → sU g s H locs → ∀ ls : Array Slot, lv_has ls 9 [(0, rf g (0)), (1, .int (u)), (2, .int (1)), (3, .int (z))] → W p l e (RM 6 156) s m av below meth c H locs 0 0 (MQ below (QU g (fun v w0 => v = .int r ∧ M2 = w0)) av s 0 0 (AU g)) (F0 m 24 ls []) := fun M u z h H locs hW hS ls hl => ih0 M u z r M2 h C hr hlk H locs hW hS ls hl
    unfold lp_L_fits_24 at h
    try dsimp only at h
    have hx := C.1
    have hb := C.2.1
    have hts := C.2.2.2.2.1
    refine lv_iload_n hx hb dL_fits_24 rfl (lv_at hl 3 rfl) ?_
    refine lv_aload_n hx hb dL_fits_25 rfl (lv_at hl 0 rfl) ?_
    refine lv_iconst (v := 5) hx hb dL_fits_26 (by decide) ?_
    obtain ⟨r1001, Mw1002, h1003, h⟩ := bind2 h
    refine cBackC C.2.2.2.2.2.2.2.2 (runVU (As := [.int (5)]) (rest := [.int (z)]) C hW hS (c_X10_count l g M 5 _ _ h1003) kV_X10_count ml_L_13 (by decide) tm_BF rfl rfl rfl hl.1 rfl (Nat.le_of_ble_eq_true rfl) ⟨Nat.le_of_ble_eq_true rfl, Nat.le_of_ble_eq_true rfl⟩ ⟨Nat.zero_le _, Nat.zero_le _⟩ dL_fits_27) hS (fun v0 w0 H locs hp hW hS hq => ?_)
    obtain ⟨rfl, rfl⟩ := hp
    refine lv_icmp_ge (tgt := 251) hx hb dL_fits_30 (by decide) (fun c1004 => ?_) (fun c1004 => ?_)
    · rw [if_pos c1004] at h
      refine lv_iload_n hx hb dL_fits_251 rfl (lv_at hl 2 rfl) ?_
      refine lv_if_eq (tgt := 275) hx hb dL_fits_252 (by decide) (fun c1005 => ?_) (fun c1005 => ?_)
      · rw [if_pos c1005] at h
        cases h
      · rw [if_neg c1005] at h
        refine lv_aload_n hx hb dL_fits_255 rfl (lv_at hl 0 rfl) ?_
        refine lv_bipush (v := 6) hx hb dL_fits_256 (by decide) ?_
        obtain ⟨r1006, Mw1007, h1008, h⟩ := bind2 h
        refine cBackC C.2.2.2.2.2.2.2.2 (runVU (As := [.int (6)]) (rest := []) C hW hS (c_X10_count l g Mw1002 6 _ _ h1008) kV_X10_count ml_L_13 (by decide) tm_BF rfl rfl rfl hl.1 rfl (Nat.le_of_ble_eq_true rfl) ⟨Nat.le_of_ble_eq_true rfl, Nat.le_of_ble_eq_true rfl⟩ ⟨Nat.zero_le _, Nat.zero_le _⟩ dL_fits_258) hS (fun v0 w0 H locs hp hW hS hq => ?_)
        obtain ⟨rfl, rfl⟩ := hp
        refine lv_iload_n hx hb dL_fits_261 rfl (lv_at hl 1 rfl) ?_
        refine lv_icmp_ne (tgt := 275) hx hb dL_fits_262 (by decide) (fun c1009 => ?_) (fun c1009 => ?_)
        · rw [if_neg c1009] at h
          refine lv_iconst (v := 0) hx hb dL_fits_275 (by decide) ?_
          cases h
        · rw [if_pos c1009] at h
          refine lv_iload_n hx hb dL_fits_265 rfl (lv_at hl 1 rfl) ?_
          refine lv_bipush (v := 8) hx hb dL_fits_266 (by decide) ?_
          refine lv_icmp_gt (tgt := 275) hx hb dL_fits_268 (by decide) (fun c1010 => ?_) (fun c1010 => ?_)
          · rw [if_pos c1010] at h
            refine lv_iconst (v := 0) hx hb dL_fits_275 (by decide) ?_
            cases h
          · rw [if_neg c1010] at h
            refine lv_iconst (v := 1) hx hb dL_fits_271 (by decide) ?_
            refine lv_goto (tgt := 276) hx hb dL_fits_272 (by decide) ?_
            cases h
            exact rZU C hr hlk dL_fits_276 hW hS rfl ⟨rfl, rfl⟩
    · rw [if_neg c1004] at h
      refine lv_iload_n hx hb dL_fits_33 rfl (lv_at hl 2 rfl) ?_
      refine lv_if_eq (tgt := 251) hx hb dL_fits_34 (by decide) (fun c1011 => ?_) (fun c1011 => ?_)
      · rw [if_pos c1011] at h
        cases h
      · rw [if_neg c1011] at h
        refine lv_iload_n hx hb dL_fits_37 rfl (lv_at hl 1 rfl) ?_
        refine lv_aload_n hx hb dL_fits_38 rfl (lv_at hl 0 rfl) ?_
        refine lv_iload_n hx hb dL_fits_39 rfl (lv_at hl 3 rfl) ?_
        refine lv_iconst (v := 3) hx hb dL_fits_40 (by decide) ?_
        obtain ⟨r1012, Mw1013, h1014, h⟩ := bind2 h
        refine cBackC C.2.2.2.2.2.2.2.2 (runVU (As := [.int (z), .int (3)]) (rest := [.int (u)]) C hW hS (c_X10_orderOf l g Mw1002 z 3 _ _ h1014) kV_X10_orderOf ml_L_29 (by decide) tm_BF rfl rfl rfl hl.1 rfl (Nat.le_of_ble_eq_true rfl) ⟨Nat.le_of_ble_eq_true rfl, Nat.le_of_ble_eq_true rfl⟩ ⟨Nat.zero_le _, Nat.zero_le _⟩ dL_fits_41) hS (fun v0 w0 H locs hp hW hS hq => ?_)
        obtain ⟨rfl, rfl⟩ := hp
        refine diaF (P := (r1012 : Int32) = 0) (A := 1) (B := 0) (F := fun z9 => W p l e (RM 6 156) s m av below meth c H locs 0 0 (MQ below (QU g (fun v w0 => v = .int r ∧ M2 = w0)) av s 0 0 (AU g)) (F0 m 52 ls [.int z9, .int (u)])) (fun a9 b9 => lv_if_ne (tgt := 51) hx hb dL_fits_44 (by decide) a9 b9) (fun k9 => ?_) (fun k9 => ?_) ?_
        · refine lv_iconst (v := 0) hx hb dL_fits_51 (by decide) ?_
          exact k9
        · refine lv_iconst (v := 1) hx hb dL_fits_47 (by decide) ?_
          refine lv_goto (tgt := 52) hx hb dL_fits_48 (by decide) ?_
          exact k9
        refine lv_iadd hx hb dL_fits_52 ?_
        refine lv_istore_n (lv' := [(1, .int ((u) + (if (r1012 : Int32) = 0 then (1 : Int32) else (0 : Int32)))), (0, rf g (0)), (2, .int (1)), (3, .int (z))]) hx hb dL_fits_53 rfl hl (by decide) rfl (fun ls hl => ?_)
        refine lv_iconst (v := 0) hx hb dL_fits_54 (by decide) ?_
        refine lv_istore (lv' := [(4, .int (0)), (1, .int ((u) + (if (r1012 : Int32) = 0 then (1 : Int32) else (0 : Int32)))), (0, rf g (0)), (2, .int (1)), (3, .int (z))]) hx hb dL_fits_55 hl (by decide) rfl (fun ls hl => ?_)
        refine lv_bipush (v := -4) hx hb dL_fits_57 (by decide) ?_
        refine lv_istore (lv' := [(5, .int (-4)), (4, .int (0)), (1, .int ((u) + (if (r1012 : Int32) = 0 then (1 : Int32) else (0 : Int32)))), (0, rf g (0)), (2, .int (1)), (3, .int (z))]) hx hb dL_fits_59 hl (by decide) rfl (fun ls hl => ?_)
        refine lv_aload_n hx hb dL_fits_61 rfl (lv_at hl 3 rfl) ?_
        refine lv_iconst (v := 1) hx hb dL_fits_62 (by decide) ?_
        obtain ⟨r1015, Mw1016, h1017, h⟩ := bind2 h
        refine cBackC C.2.2.2.2.2.2.2.2 (runVU (As := [.int (1)]) (rest := []) C hW hS (c_X10_count l g Mw1013 1 _ _ h1017) kV_X10_count ml_L_13 (by decide) tm_BF rfl rfl rfl hl.1 rfl (Nat.le_of_ble_eq_true rfl) ⟨Nat.le_of_ble_eq_true rfl, Nat.le_of_ble_eq_true rfl⟩ ⟨Nat.zero_le _, Nat.zero_le _⟩ dL_fits_63) hS (fun v0 w0 H locs hp hW hS hq => ?_)
        obtain ⟨rfl, rfl⟩ := hp
        refine lv_iconst (v := 1) hx hb dL_fits_66 (by decide) ?_
        refine lv_isub hx hb dL_fits_67 ?_
        refine lv_istore (lv' := [(6, .int ((r1015) - (1))), (5, .int (-4)), (4, .int (0)), (1, .int ((u) + (if (r1012 : Int32) = 0 then (1 : Int32) else (0 : Int32)))), (0, rf g (0)), (2, .int (1)), (3, .int (z))]) hx hb dL_fits_68 hl (by decide) rfl (fun ls hl => ?_)
        obtain ⟨y1018, y1019, Mw1020, h1021, h⟩ := bind3 h
        refine t_L_fits_70 l g ((u) + (if (r1012 : Int32) = 0 then (1 : Int32) else (0 : Int32))) FU Mw1016 z 0 (-4) ((r1015) - (1)) y1018 y1019 Mw1020 h1021 C _ _ hW hS ls (lv_sub hl [4, 3, 5, 6, 2, 1, 0] rfl) (fun H locs hW hS ls hl => ?_)
        refine lv_iload_n hx hb dL_fits_213 rfl (lv_at hl 2 rfl) ?_
        refine lv_if_eq (tgt := 243) hx hb dL_fits_214 (by decide) (fun c1022 => ?_) (fun c1022 => ?_)
        · rw [if_pos c1022] at h
          cases h
        · rw [if_neg c1022] at h
          refine lv_aload_n hx hb dL_fits_217 rfl (lv_at hl 0 rfl) ?_
          refine lv_iload_n hx hb dL_fits_218 rfl (lv_at hl 3 rfl) ?_
          refine lv_iconst (v := 4) hx hb dL_fits_219 (by decide) ?_
          obtain ⟨r1023, Mw1024, h1025, h⟩ := bind2 h
          refine cBackC C.2.2.2.2.2.2.2.2 (runVU (As := [.int (z), .int (4)]) (rest := []) C hW hS (c_X10_orderOf l g Mw1020 z 4 _ _ h1025) kV_X10_orderOf ml_L_29 (by decide) tm_BF rfl rfl rfl hl.1 rfl (Nat.le_of_ble_eq_true rfl) ⟨Nat.le_of_ble_eq_true rfl, Nat.le_of_ble_eq_true rfl⟩ ⟨Nat.zero_le _, Nat.zero_le _⟩ dL_fits_220) hS (fun v0 w0 H locs hp hW hS hq => ?_)
          obtain ⟨rfl, rfl⟩ := hp
          refine lv_iload hx hb dL_fits_223 (lv_at hl 5 rfl) ?_
          refine lv_icmp_ne (tgt := 243) hx hb dL_fits_225 (by decide) (fun c1026 => ?_) (fun c1026 => ?_)
          · rw [if_neg c1026] at h
            refine lv_iconst (v := 0) hx hb dL_fits_243 (by decide) ?_
            cases h
          · rw [if_pos c1026] at h
            refine lv_aload_n hx hb dL_fits_228 rfl (lv_at hl 0 rfl) ?_
            refine lv_iload_n hx hb dL_fits_229 rfl (lv_at hl 3 rfl) ?_
            refine lv_iconst (v := 5) hx hb dL_fits_230 (by decide) ?_
            obtain ⟨r1027, Mw1028, h1029, h⟩ := bind2 h
            refine cBackC C.2.2.2.2.2.2.2.2 (runVU (As := [.int (z), .int (5)]) (rest := []) C hW hS (c_X10_orderOf l g Mw1024 z 5 _ _ h1029) kV_X10_orderOf ml_L_29 (by decide) tm_BF rfl rfl rfl hl.1 rfl (Nat.le_of_ble_eq_true rfl) ⟨Nat.le_of_ble_eq_true rfl, Nat.le_of_ble_eq_true rfl⟩ ⟨Nat.zero_le _, Nat.zero_le _⟩ dL_fits_231) hS (fun v0 w0 H locs hp hW hS hq => ?_)
            obtain ⟨rfl, rfl⟩ := hp
            refine lv_iload hx hb dL_fits_234 (lv_at hl 4 rfl) ?_
            refine lv_icmp_ne (tgt := 243) hx hb dL_fits_236 (by decide) (fun c1030 => ?_) (fun c1030 => ?_)
            · rw [if_neg c1030] at h
              refine lv_iconst (v := 0) hx hb dL_fits_243 (by decide) ?_
              cases h
            · rw [if_pos c1030] at h
              refine lv_iconst (v := 1) hx hb dL_fits_239 (by decide) ?_
              refine lv_goto (tgt := 244) hx hb dL_fits_240 (by decide) ?_
              refine lv_istore_n (lv' := [(2, .int (1)), (0, rf g (0)), (1, .int ((u) + (if (r1012 : Int32) = 0 then (1 : Int32) else (0 : Int32)))), (3, .int (z)), (4, .int (y1018)), (5, .int (y1019))]) hx hb dL_fits_244 rfl hl (by decide) rfl (fun ls hl => ?_)
              refine lv_iinc (v := z + 1) (lv' := [(3, .int (z + 1)), (2, .int (1)), (0, rf g (0)), (1, .int ((u) + (if (r1012 : Int32) = 0 then (1 : Int32) else (0 : Int32)))), (4, .int (y1018)), (5, .int (y1019))]) hx hb dL_fits_245 hl (k := 3) rfl rfl (by decide) rfl (fun ls hl => ?_)
              refine lv_goto (tgt := 24) hx hb dL_fits_248 (by decide) ?_
              exact ih Mw1028 ((u) + (if (r1012 : Int32) = 0 then (1 : Int32) else (0 : Int32))) (z + 1) h _ _ hW hS ls (lv_sub hl [2, 3, 1, 0] rfl)
set_option maxHeartbeats 4000000 in
set_option maxRecDepth 100000 in
theorem c_L_fits (l : Launch) (g : GD) (M : MM)  (r : Int32) (M2 : MM) (h : f_L_fits M  = some (r, M2)) : Met l yL_fits (wm yL_fits cL_fits 9 (some .boolean)) (RM 6 156) (va_Pc [rf g (0)] (WDp g M)) (QU g (fun v w0 => v = .int r ∧ M2 = w0)) 0 0 (AU g) := by
  refine mkU (by decide +kernel) (Nat.le_of_ble_eq_true rfl) ?_
  intro p e s m below meth c C hr hlk hW hS ls hl
  have hl : lv_has ls 9 [(0, rf g (0))] := hl
  have hx := C.1
  have hb := C.2.1
  have hts := C.2.2.2.2.1
  unfold f_L_fits at h
  refine lv_iconst (v := 0) hx hb dL_fits_0 (by decide) ?_
  refine lv_istore_n (lv' := [(1, .int (0)), (0, rf g (0))]) hx hb dL_fits_1 rfl hl (by decide) rfl (fun ls hl => ?_)
  refine lv_aload_n hx hb dL_fits_2 rfl (lv_at hl 1 rfl) ?_
  obtain ⟨r1, Mw2, h3, h⟩ := bind2 h
  refine cBackL C.2.2.2.2.2.2.2.2 (runSU (As := [rf g (0)]) (rest := []) C hW hS (c_L_areBells l g M  _ _ h3) kS_L_areBells ml_L_89 rfl hl.1 rfl (Nat.le_of_ble_eq_true rfl) ⟨Nat.le_of_ble_eq_true rfl, Nat.le_of_ble_eq_true rfl⟩ ⟨Nat.zero_le _, Nat.zero_le _⟩ dL_fits_3) hS (fun v0 w0 H locs hp hW hS => ?_)
  obtain ⟨rfl, rfl⟩ := hp
  refine lv_if_eq (tgt := 20) hx hb dL_fits_6 (by decide) (fun c4 => ?_) (fun c4 => ?_)
  · rw [if_pos c4] at h
    refine lv_iconst (v := 0) hx hb dL_fits_20 (by decide) ?_
    cases h
  · rw [if_neg c4] at h
    refine lv_aload_n hx hb dL_fits_9 rfl (lv_at hl 1 rfl) ?_
    obtain ⟨r5, Mw6, h7, h⟩ := bind2 h
    refine cBackL C.2.2.2.2.2.2.2.2 (runSU (As := [rf g (0)]) (rest := []) C hW hS (c_L_areMetals l g Mw2  _ _ h7) kS_L_areMetals ml_L_93 rfl hl.1 rfl (Nat.le_of_ble_eq_true rfl) ⟨Nat.le_of_ble_eq_true rfl, Nat.le_of_ble_eq_true rfl⟩ ⟨Nat.zero_le _, Nat.zero_le _⟩ dL_fits_10) hS (fun v0 w0 H locs hp hW hS => ?_)
    obtain ⟨rfl, rfl⟩ := hp
    refine lv_if_eq (tgt := 20) hx hb dL_fits_13 (by decide) (fun c8 => ?_) (fun c8 => ?_)
    · rw [if_pos c8] at h
      refine lv_iconst (v := 0) hx hb dL_fits_20 (by decide) ?_
      cases h
    · rw [if_neg c8] at h
      refine lv_iconst (v := 1) hx hb dL_fits_16 (by decide) ?_
      refine lv_goto (tgt := 21) hx hb dL_fits_17 (by decide) ?_
      refine lv_istore_n (lv' := [(2, .int (1)), (1, .int (0)), (0, rf g (0))]) hx hb dL_fits_21 rfl hl (by decide) rfl (fun ls hl => ?_)
      refine lv_iconst (v := 0) hx hb dL_fits_22 (by decide) ?_
      refine lv_istore_n (lv' := [(3, .int (0)), (2, .int (1)), (1, .int (0)), (0, rf g (0))]) hx hb dL_fits_23 rfl hl (by decide) rfl (fun ls hl => ?_)
      exact t_L_fits_24 l g FU Mw6 0 0 _ _ h C hr hlk _ _ hW hS ls (lv_sub hl [3, 2, 1, 0] rfl)
def lp_L_comesTrue_367 (fu : Nat) (M : MM) (wa : Int64) : Option (Int32 × MM) := match fu with
  | 0 => none
  | n + 1 => (if (1 : Int32) = 0 then none else (bnd2 (f_L_sum M ) fun r2002 Mw2003 => (if (lg_cmp (r2002) (wa) : Int32) = 0 then some (1, Mw2003) else none)))
def lp_L_comesTrue_201 (fu : Nat) (M : MM) (wa : Int64) (j : Int32) : Option (Int32 × MM) := match fu with
  | 0 => none
  | n + 1 => (bnd2 (f_X10_pourFor M j) fun r1001 Mw1002 => (bnd2 (f_X10_count Mw1002 1) fun r1004 Mw1005 => (if (1 : Int32) = 0 then none else (if (r1001 : Int32) ≤ 0 then (lp_L_comesTrue_367 FU Mw1005 wa) else (bnd2 (f_X10_count Mw1005 2) fun r1009 Mw1010 => (if (12 : Int32) ≤ (r1009 : Int32) then (lp_L_comesTrue_367 FU Mw1010 wa) else (if (100 : Int32) ≤ (r1004 : Int32) then (lp_L_comesTrue_367 FU Mw1010 wa) else (bnd2 (f_X10_orderOf Mw1010 j 0) fun r1014 Mw1015 => (bnd2 (f_X10_pour Mw1015 r1014 r1001) fun r1017 Mw1018 => (if (r1017 : Int32) = (r1004 : Int32) then (bnd2 (f_X10_bell Mw1018 r1004 5) fun r1021 Mw1022 => (bnd2 (f_X10_orderOf Mw1022 j 1) fun r1024 Mw1025 => (if (r1021 : Int32) < (r1024 : Int32) then none else (bnd2 (f_X10_undo Mw1025 ) fun r1028 Mw1029 => (if (r1028 : Int32) < 0 then none else (if (1 : Int32) = 0 then none else (if (10000 : Int32) ≤ (r1001 : Int32) then (lp_L_comesTrue_367 FU Mw1029 wa) else (bnd2 (f_X10_orderOf Mw1029 j 0) fun r1034 Mw1035 => (bnd2 (f_X10_pour Mw1035 r1034 ((r1001) + (1))) fun r1037 Mw1038 => (if (r1037 : Int32) = (-2 : Int32) then (lp_L_comesTrue_367 FU Mw1038 wa) else (if (r1037 : Int32) = (r1004 : Int32) then (bnd2 (f_X10_bell Mw1038 r1004 5) fun r1042 Mw1043 => (bnd2 (f_X10_orderOf Mw1043 j 1) fun r1045 Mw1046 => (if (r1045 : Int32) ≤ (r1042 : Int32) then none else (bnd2 (f_X10_undo Mw1046 ) fun r1049 Mw1050 => (if (r1049 : Int32) < 0 then none else (lp_L_comesTrue_367 FU Mw1050 wa)))))) else none))))))))))) else none))))))))))
def f_L_comesTrue (M : MM) (x : Int32) : Option (Int32 × MM) := (bnd2 (f_X10_count M 5) fun r1 Mw2 => (if (r1 : Int32) = 0 then some (1, Mw2) else (bnd2 (f_X10_count Mw2 1) fun r5 Mw6 => (if (r5 : Int32) = 0 then some (1, Mw6) else (bnd2 (f_L_sum Mw6 ) fun r9 Mw10 => (bnd2 (f_X10_count Mw10 5) fun r12 Mw13 => (bnd2 (f_L_low Mw13 x r12) fun r15 Mw16 => (bnd2 (f_X10_count Mw16 1) fun r18 Mw19 => (bnd2 (f_L_low Mw19 ((x) >>> ((4) &&& 31)) r18) fun r21 Mw22 => (bnd2 (f_X10_tuneFor Mw22 r21 r15) fun r24 Mw25 => (bnd2 (f_X10_bell Mw25 r21 8) fun r27 Mw28 => (if (if (r24 : Int32) = (-2 : Int32) then (1 : Int32) else (0 : Int32) : Int32) = (if (r27 : Int32) = 0 then (0 : Int32) else (1 : Int32) : Int32) then (if (r24 : Int32) ≤ 0 then (lp_L_comesTrue_201 FU Mw28 r9 r15) else (if (1 : Int32) = 0 then none else (bnd2 (f_X10_tune Mw28 r21 r24) fun r33 Mw34 => (if (r33 : Int32) ≤ 0 then none else (bnd2 (f_X10_bell Mw34 r21 8) fun r37 Mw38 => (if (r37 : Int32) = 0 then (bnd2 (f_X10_tuneFor Mw38 r21 r15) fun r41 Mw42 => (if (r41 : Int32) = 0 then (bnd2 (f_X10_undo Mw42 ) fun r45 Mw46 => (if (r45 : Int32) < 0 then none else (if (1 : Int32) = 0 then none else (if (r24 : Int32) = (1 : Int32) then (lp_L_comesTrue_201 FU Mw46 r9 r15) else (bnd2 (f_X10_tune Mw46 r21 ((r24) - (1))) fun r51 Mw52 => (if (r51 : Int32) ≤ 0 then none else (bnd2 (f_X10_tuneFor Mw52 r21 r15) fun r55 Mw56 => (if (r55 : Int32) = 0 then none else (bnd2 (f_X10_undo Mw56 ) fun r59 Mw60 => (if (r59 : Int32) < 0 then none else (lp_L_comesTrue_201 FU Mw60 r9 r15))))))))))) else none)) else none)))))) else none))))))))))))
set_option maxHeartbeats 4000000 in
set_option maxRecDepth 100000 in
theorem t_L_comesTrue_367 (l : Launch) (g : GD)  {p : Program} {e : Env} {s : State} {m : MethodId} {av : Array Value} {below : List Frame} {meth : Method} {c : Code} (n : Nat) : ∀ (M : MM) (wa : Int64) (r : Int32) (M2 : MM), lp_L_comesTrue_367 n M wa = some (r, M2) → CX p s m av c cL_comesTrue 11 RL g → meth.sig.returnType = (some .boolean) → meth.locks = false → ∀ (H : Heap) (locs : List Loc), Wd g M H → sU g s H locs → ∀ ls : Array Slot, lv_has ls 11 [(0, rf g (0)), (2, .long (wa)), (7, .int (1))] → W p l e (RM 6 151) s m av below meth c H locs 0 0 (MQ below (QU g (fun v w0 => v = .int r ∧ M2 = w0)) av s 0 0 (AU g)) (F0 m 367 ls []) := by
  induction n with
  | zero => intro M wa r M2 h; cases h
  | succ n ih0 =>
    intro M wa r M2 h C hr hlk H locs hW hS ls hl
    have ih : ∀ (M : MM) (wa : Int64), lp_L_comesTrue_367 n M wa = some (r, M2) → ∀ (H : Heap) (locs : List Loc), Wd g M H → sU g s H locs → ∀ ls : Array Slot, lv_has ls 11 [(0, rf g (0)), (2, .long (wa)), (7, .int (1))] → W p l e (RM 6 151) s m av below meth c H locs 0 0 (MQ below (QU g (fun v w0 => v = .int r ∧ M2 = w0)) av s 0 0 (AU g)) (F0 m 367 ls []) := fun M wa h H locs hW hS ls hl => ih0 M wa r M2 h C hr hlk H locs hW hS ls hl
    unfold lp_L_comesTrue_367 at h
    try dsimp only at h
    have hx := C.1
    have hb := C.2.1
    have hts := C.2.2.2.2.1
    refine lv_iload hx hb dL_comesTrue_367 (lv_at hl 2 rfl) ?_
    refine lv_if_eq (tgt := 385) hx hb dL_comesTrue_369 (by decide) (fun c2001 => ?_) (fun c2001 => ?_)
    · rw [if_pos c2001] at h
      cases h
    · rw [if_neg c2001] at h
      refine lv_aload_n hx hb dL_comesTrue_372 rfl (lv_at hl 0 rfl) ?_
      obtain ⟨r2002, Mw2003, h2004, h⟩ := bind2 h
      refine cBackL C.2.2.2.2.2.2.2.2 (runSU (As := [rf g (0)]) (rest := []) C hW hS (c_L_sum l g M  _ _ h2004) kS_L_sum ml_L_32 rfl hl.1 rfl (Nat.le_of_ble_eq_true rfl) ⟨Nat.le_of_ble_eq_true rfl, Nat.le_of_ble_eq_true rfl⟩ ⟨Nat.zero_le _, Nat.zero_le _⟩ dL_comesTrue_373) hS (fun v0 w0 H locs hp hW hS => ?_)
      obtain ⟨rfl, rfl⟩ := hp
      refine lv_lload_n hx hb dL_comesTrue_376 rfl (lv_at hl 1 rfl) ?_
      refine W.lcmp hx hb dL_comesTrue_377 ?_
      refine lv_if_ne (tgt := 385) hx hb dL_comesTrue_378 (by decide) (fun c2005 => ?_) (fun c2005 => ?_)
      · rw [if_neg c2005] at h
        refine lv_iconst (v := 0) hx hb dL_comesTrue_385 (by decide) ?_
        cases h
      · rw [if_pos c2005] at h
        refine lv_iconst (v := 1) hx hb dL_comesTrue_381 (by decide) ?_
        refine lv_goto (tgt := 386) hx hb dL_comesTrue_382 (by decide) ?_
        cases h
        exact rZU C hr hlk dL_comesTrue_386 hW hS rfl ⟨rfl, rfl⟩
set_option maxHeartbeats 4000000 in
set_option maxRecDepth 100000 in
theorem t_L_comesTrue_201 (l : Launch) (g : GD)  {p : Program} {e : Env} {s : State} {m : MethodId} {av : Array Value} {below : List Frame} {meth : Method} {c : Code} (n : Nat) : ∀ (M : MM) (wa : Int64) (j : Int32) (r : Int32) (M2 : MM), lp_L_comesTrue_201 n M wa j = some (r, M2) → CX p s m av c cL_comesTrue 11 RL g → meth.sig.returnType = (some .boolean) → meth.locks = false → ∀ (H : Heap) (locs : List Loc), Wd g M H → sU g s H locs → ∀ ls : Array Slot, lv_has ls 11 [(0, rf g (0)), (2, .long (wa)), (4, .int (j)), (7, .int (1))] → W p l e (RM 6 151) s m av below meth c H locs 0 0 (MQ below (QU g (fun v w0 => v = .int r ∧ M2 = w0)) av s 0 0 (AU g)) (F0 m 201 ls []) := by
  induction n with
  | zero => intro M wa j r M2 h; cases h
  | succ n ih0 =>
    intro M wa j r M2 h C hr hlk H locs hW hS ls hl
    have ih : ∀ (M : MM) (wa : Int64) (j : Int32), lp_L_comesTrue_201 n M wa j = some (r, M2) → ∀ (H : Heap) (locs : List Loc), Wd g M H → sU g s H locs → ∀ ls : Array Slot, lv_has ls 11 [(0, rf g (0)), (2, .long (wa)), (4, .int (j)), (7, .int (1))] → W p l e (RM 6 151) s m av below meth c H locs 0 0 (MQ below (QU g (fun v w0 => v = .int r ∧ M2 = w0)) av s 0 0 (AU g)) (F0 m 201 ls []) := fun M wa j h H locs hW hS ls hl => ih0 M wa j r M2 h C hr hlk H locs hW hS ls hl
    unfold lp_L_comesTrue_201 at h
    try dsimp only at h
    have hx := C.1
    have hb := C.2.1
    have hts := C.2.2.2.2.1
    refine lv_aload_n hx hb dL_comesTrue_201 rfl (lv_at hl 0 rfl) ?_
    refine lv_iload hx hb dL_comesTrue_202 (lv_at hl 2 rfl) ?_
    obtain ⟨r1001, Mw1002, h1003, h⟩ := bind2 h
    refine cBackC C.2.2.2.2.2.2.2.2 (runVU (As := [.int (j)]) (rest := []) C hW hS (c_X10_pourFor l g M j _ _ h1003) kV_X10_pourFor ml_L_75 (by decide) tm_BF rfl rfl rfl hl.1 rfl (Nat.le_of_ble_eq_true rfl) ⟨Nat.le_of_ble_eq_true rfl, Nat.le_of_ble_eq_true rfl⟩ ⟨Nat.zero_le _, Nat.zero_le _⟩ dL_comesTrue_204) hS (fun v0 w0 H locs hp hW hS hq => ?_)
    obtain ⟨rfl, rfl⟩ := hp
    refine lv_istore (lv' := [(8, .int (r1001)), (0, rf g (0)), (2, .long (wa)), (4, .int (j)), (7, .int (1))]) hx hb dL_comesTrue_207 hl (by decide) rfl (fun ls hl => ?_)
    refine lv_aload_n hx hb dL_comesTrue_209 rfl (lv_at hl 1 rfl) ?_
    refine lv_iconst (v := 1) hx hb dL_comesTrue_210 (by decide) ?_
    obtain ⟨r1004, Mw1005, h1006, h⟩ := bind2 h
    refine cBackC C.2.2.2.2.2.2.2.2 (runVU (As := [.int (1)]) (rest := []) C hW hS (c_X10_count l g Mw1002 1 _ _ h1006) kV_X10_count ml_L_13 (by decide) tm_BF rfl rfl rfl hl.1 rfl (Nat.le_of_ble_eq_true rfl) ⟨Nat.le_of_ble_eq_true rfl, Nat.le_of_ble_eq_true rfl⟩ ⟨Nat.zero_le _, Nat.zero_le _⟩ dL_comesTrue_211) hS (fun v0 w0 H locs hp hW hS hq => ?_)
    obtain ⟨rfl, rfl⟩ := hp
    refine lv_istore (lv' := [(9, .int (r1004)), (8, .int (r1001)), (0, rf g (0)), (2, .long (wa)), (4, .int (j)), (7, .int (1))]) hx hb dL_comesTrue_214 hl (by decide) rfl (fun ls hl => ?_)
    refine lv_iload hx hb dL_comesTrue_216 (lv_at hl 5 rfl) ?_
    refine lv_if_eq (tgt := 367) hx hb dL_comesTrue_218 (by decide) (fun c1007 => ?_) (fun c1007 => ?_)
    · rw [if_pos c1007] at h
      cases h
    · rw [if_neg c1007] at h
      refine lv_iload hx hb dL_comesTrue_221 (lv_at hl 1 rfl) ?_
      refine lv_if_le (tgt := 367) hx hb dL_comesTrue_223 (by decide) (fun c1008 => ?_) (fun c1008 => ?_)
      · rw [if_pos c1008] at h
        exact t_L_comesTrue_367 l g FU Mw1005 wa _ _ h C hr hlk _ _ hW hS ls (lv_sub hl [2, 3, 5] rfl)
      · rw [if_neg c1008] at h
        refine lv_aload_n hx hb dL_comesTrue_226 rfl (lv_at hl 2 rfl) ?_
        refine lv_iconst (v := 2) hx hb dL_comesTrue_227 (by decide) ?_
        obtain ⟨r1009, Mw1010, h1011, h⟩ := bind2 h
        refine cBackC C.2.2.2.2.2.2.2.2 (runVU (As := [.int (2)]) (rest := []) C hW hS (c_X10_count l g Mw1005 2 _ _ h1011) kV_X10_count ml_L_13 (by decide) tm_BF rfl rfl rfl hl.1 rfl (Nat.le_of_ble_eq_true rfl) ⟨Nat.le_of_ble_eq_true rfl, Nat.le_of_ble_eq_true rfl⟩ ⟨Nat.zero_le _, Nat.zero_le _⟩ dL_comesTrue_228) hS (fun v0 w0 H locs hp hW hS hq => ?_)
        obtain ⟨rfl, rfl⟩ := hp
        refine lv_bipush (v := 12) hx hb dL_comesTrue_231 (by decide) ?_
        refine lv_icmp_ge (tgt := 367) hx hb dL_comesTrue_233 (by decide) (fun c1012 => ?_) (fun c1012 => ?_)
        · rw [if_pos c1012] at h
          exact t_L_comesTrue_367 l g FU Mw1010 wa _ _ h C hr hlk _ _ hW hS ls (lv_sub hl [2, 3, 5] rfl)
        · rw [if_neg c1012] at h
          refine lv_iload hx hb dL_comesTrue_236 (lv_at hl 0 rfl) ?_
          refine lv_bipush (v := 100) hx hb dL_comesTrue_238 (by decide) ?_
          refine lv_icmp_ge (tgt := 367) hx hb dL_comesTrue_240 (by decide) (fun c1013 => ?_) (fun c1013 => ?_)
          · rw [if_pos c1013] at h
            exact t_L_comesTrue_367 l g FU Mw1010 wa _ _ h C hr hlk _ _ hW hS ls (lv_sub hl [2, 3, 5] rfl)
          · rw [if_neg c1013] at h
            refine lv_aload_n hx hb dL_comesTrue_243 rfl (lv_at hl 2 rfl) ?_
            refine lv_aload_n hx hb dL_comesTrue_244 rfl (lv_at hl 2 rfl) ?_
            refine lv_iload hx hb dL_comesTrue_245 (lv_at hl 4 rfl) ?_
            refine lv_iconst (v := 0) hx hb dL_comesTrue_247 (by decide) ?_
            obtain ⟨r1014, Mw1015, h1016, h⟩ := bind2 h
            refine cBackC C.2.2.2.2.2.2.2.2 (runVU (As := [.int (j), .int (0)]) (rest := [rf g (0)]) C hW hS (c_X10_orderOf l g Mw1010 j 0 _ _ h1016) kV_X10_orderOf ml_L_29 (by decide) tm_BF rfl rfl rfl hl.1 rfl (Nat.le_of_ble_eq_true rfl) ⟨Nat.le_of_ble_eq_true rfl, Nat.le_of_ble_eq_true rfl⟩ ⟨Nat.zero_le _, Nat.zero_le _⟩ dL_comesTrue_248) hS (fun v0 w0 H locs hp hW hS hq => ?_)
            obtain ⟨rfl, rfl⟩ := hp
            refine lv_iload hx hb dL_comesTrue_251 (lv_at hl 1 rfl) ?_
            obtain ⟨r1017, Mw1018, h1019, h⟩ := bind2 h
            refine cBackC C.2.2.2.2.2.2.2.2 (runVU (As := [.int (r1014), .int (r1001)]) (rest := []) C hW hS (c_X10_pour l g Mw1015 r1014 r1001 _ _ h1019) kV_X10_pour ml_L_53 (by decide) tm_BF rfl rfl rfl hl.1 rfl (Nat.le_of_ble_eq_true rfl) ⟨Nat.le_of_ble_eq_true rfl, Nat.le_of_ble_eq_true rfl⟩ ⟨Nat.zero_le _, Nat.zero_le _⟩ dL_comesTrue_253) hS (fun v0 w0 H locs hp hW hS hq => ?_)
            obtain ⟨rfl, rfl⟩ := hp
            refine lv_iload hx hb dL_comesTrue_256 (lv_at hl 0 rfl) ?_
            refine lv_icmp_ne (tgt := 289) hx hb dL_comesTrue_258 (by decide) (fun c1020 => ?_) (fun c1020 => ?_)
            · rw [if_neg c1020] at h
              refine lv_iconst (v := 0) hx hb dL_comesTrue_289 (by decide) ?_
              cases h
            · rw [if_pos c1020] at h
              refine lv_aload_n hx hb dL_comesTrue_261 rfl (lv_at hl 2 rfl) ?_
              refine lv_iload hx hb dL_comesTrue_262 (lv_at hl 0 rfl) ?_
              refine lv_iconst (v := 5) hx hb dL_comesTrue_264 (by decide) ?_
              obtain ⟨r1021, Mw1022, h1023, h⟩ := bind2 h
              refine cBackC C.2.2.2.2.2.2.2.2 (runVU (As := [.int (r1004), .int (5)]) (rest := []) C hW hS (c_X10_bell l g Mw1018 r1004 5 _ _ h1023) kV_X10_bell ml_L_26 (by decide) tm_BF rfl rfl rfl hl.1 rfl (Nat.le_of_ble_eq_true rfl) ⟨Nat.le_of_ble_eq_true rfl, Nat.le_of_ble_eq_true rfl⟩ ⟨Nat.zero_le _, Nat.zero_le _⟩ dL_comesTrue_265) hS (fun v0 w0 H locs hp hW hS hq => ?_)
              obtain ⟨rfl, rfl⟩ := hp
              refine lv_aload_n hx hb dL_comesTrue_268 rfl (lv_at hl 2 rfl) ?_
              refine lv_iload hx hb dL_comesTrue_269 (lv_at hl 4 rfl) ?_
              refine lv_iconst (v := 1) hx hb dL_comesTrue_271 (by decide) ?_
              obtain ⟨r1024, Mw1025, h1026, h⟩ := bind2 h
              refine cBackC C.2.2.2.2.2.2.2.2 (runVU (As := [.int (j), .int (1)]) (rest := [.int (r1021)]) C hW hS (c_X10_orderOf l g Mw1022 j 1 _ _ h1026) kV_X10_orderOf ml_L_29 (by decide) tm_BF rfl rfl rfl hl.1 rfl (Nat.le_of_ble_eq_true rfl) ⟨Nat.le_of_ble_eq_true rfl, Nat.le_of_ble_eq_true rfl⟩ ⟨Nat.zero_le _, Nat.zero_le _⟩ dL_comesTrue_272) hS (fun v0 w0 H locs hp hW hS hq => ?_)
              obtain ⟨rfl, rfl⟩ := hp
              refine lv_icmp_lt (tgt := 289) hx hb dL_comesTrue_275 (by decide) (fun c1027 => ?_) (fun c1027 => ?_)
              · rw [if_pos c1027] at h
                refine lv_iconst (v := 0) hx hb dL_comesTrue_289 (by decide) ?_
                cases h
              · rw [if_neg c1027] at h
                refine lv_aload_n hx hb dL_comesTrue_278 rfl (lv_at hl 2 rfl) ?_
                obtain ⟨r1028, Mw1029, h1030, h⟩ := bind2 h
                refine cBackC C.2.2.2.2.2.2.2.2 (runVU (As := []) (rest := []) C hW hS (c_X10_undo l g Mw1025  _ _ h1030) kV_X10_undo ml_L_99 (by decide) tm_BF rfl rfl rfl hl.1 rfl (Nat.le_of_ble_eq_true rfl) ⟨Nat.le_of_ble_eq_true rfl, Nat.le_of_ble_eq_true rfl⟩ ⟨Nat.zero_le _, Nat.zero_le _⟩ dL_comesTrue_279) hS (fun v0 w0 H locs hp hW hS hq => ?_)
                obtain ⟨rfl, rfl⟩ := hp
                refine lv_if_lt (tgt := 289) hx hb dL_comesTrue_282 (by decide) (fun c1031 => ?_) (fun c1031 => ?_)
                · rw [if_pos c1031] at h
                  refine lv_iconst (v := 0) hx hb dL_comesTrue_289 (by decide) ?_
                  cases h
                · rw [if_neg c1031] at h
                  refine lv_iconst (v := 1) hx hb dL_comesTrue_285 (by decide) ?_
                  refine lv_goto (tgt := 290) hx hb dL_comesTrue_286 (by decide) ?_
                  refine lv_istore (lv' := [(7, .int (1)), (9, .int (r1004)), (8, .int (r1001)), (0, rf g (0)), (2, .long (wa)), (4, .int (j))]) hx hb dL_comesTrue_290 hl (by decide) rfl (fun ls hl => ?_)
                  refine lv_iload hx hb dL_comesTrue_292 (lv_at hl 0 rfl) ?_
                  refine lv_if_eq (tgt := 367) hx hb dL_comesTrue_294 (by decide) (fun c1032 => ?_) (fun c1032 => ?_)
                  · rw [if_pos c1032] at h
                    cases h
                  · rw [if_neg c1032] at h
                    refine lv_iload hx hb dL_comesTrue_297 (lv_at hl 2 rfl) ?_
                    refine lv_sipush (v := 10000) hx hb dL_comesTrue_299 (by decide) ?_
                    refine lv_icmp_ge (tgt := 367) hx hb dL_comesTrue_302 (by decide) (fun c1033 => ?_) (fun c1033 => ?_)
                    · rw [if_pos c1033] at h
                      exact t_L_comesTrue_367 l g FU Mw1029 wa _ _ h C hr hlk _ _ hW hS ls (lv_sub hl [3, 4, 0] rfl)
                    · rw [if_neg c1033] at h
                      refine lv_aload_n hx hb dL_comesTrue_305 rfl (lv_at hl 3 rfl) ?_
                      refine lv_aload_n hx hb dL_comesTrue_306 rfl (lv_at hl 3 rfl) ?_
                      refine lv_iload hx hb dL_comesTrue_307 (lv_at hl 5 rfl) ?_
                      refine lv_iconst (v := 0) hx hb dL_comesTrue_309 (by decide) ?_
                      obtain ⟨r1034, Mw1035, h1036, h⟩ := bind2 h
                      refine cBackC C.2.2.2.2.2.2.2.2 (runVU (As := [.int (j), .int (0)]) (rest := [rf g (0)]) C hW hS (c_X10_orderOf l g Mw1029 j 0 _ _ h1036) kV_X10_orderOf ml_L_29 (by decide) tm_BF rfl rfl rfl hl.1 rfl (Nat.le_of_ble_eq_true rfl) ⟨Nat.le_of_ble_eq_true rfl, Nat.le_of_ble_eq_true rfl⟩ ⟨Nat.zero_le _, Nat.zero_le _⟩ dL_comesTrue_310) hS (fun v0 w0 H locs hp hW hS hq => ?_)
                      obtain ⟨rfl, rfl⟩ := hp
                      refine lv_iload hx hb dL_comesTrue_313 (lv_at hl 2 rfl) ?_
                      refine lv_iconst (v := 1) hx hb dL_comesTrue_315 (by decide) ?_
                      refine lv_iadd hx hb dL_comesTrue_316 ?_
                      obtain ⟨r1037, Mw1038, h1039, h⟩ := bind2 h
                      refine cBackC C.2.2.2.2.2.2.2.2 (runVU (As := [.int (r1034), .int ((r1001) + (1))]) (rest := []) C hW hS (c_X10_pour l g Mw1035 r1034 ((r1001) + (1)) _ _ h1039) kV_X10_pour ml_L_53 (by decide) tm_BF rfl rfl rfl hl.1 rfl (Nat.le_of_ble_eq_true rfl) ⟨Nat.le_of_ble_eq_true rfl, Nat.le_of_ble_eq_true rfl⟩ ⟨Nat.zero_le _, Nat.zero_le _⟩ dL_comesTrue_317) hS (fun v0 w0 H locs hp hW hS hq => ?_)
                      obtain ⟨rfl, rfl⟩ := hp
                      refine lv_istore (lv' := [(10, .int (r1037)), (7, .int (1)), (9, .int (r1004)), (8, .int (r1001)), (0, rf g (0)), (2, .long (wa)), (4, .int (j))]) hx hb dL_comesTrue_320 hl (by decide) rfl (fun ls hl => ?_)
                      refine lv_iload hx hb dL_comesTrue_322 (lv_at hl 0 rfl) ?_
                      refine lv_bipush (v := -2) hx hb dL_comesTrue_324 (by decide) ?_
                      refine lv_icmp_eq (tgt := 360) hx hb dL_comesTrue_326 (by decide) (fun c1040 => ?_) (fun c1040 => ?_)
                      · rw [if_pos c1040] at h
                        refine lv_iconst (v := 1) hx hb dL_comesTrue_360 (by decide) ?_
                        refine lv_goto (tgt := 365) hx hb dL_comesTrue_361 (by decide) ?_
                        refine lv_istore (lv' := [(7, .int (1)), (10, .int (r1037)), (9, .int (r1004)), (8, .int (r1001)), (0, rf g (0)), (2, .long (wa)), (4, .int (j))]) hx hb dL_comesTrue_365 hl (by decide) rfl (fun ls hl => ?_)
                        exact t_L_comesTrue_367 l g FU Mw1038 wa _ _ h C hr hlk _ _ hW hS ls (lv_sub hl [4, 5, 0] rfl)
                      · rw [if_neg c1040] at h
                        refine lv_iload hx hb dL_comesTrue_329 (lv_at hl 0 rfl) ?_
                        refine lv_iload hx hb dL_comesTrue_331 (lv_at hl 2 rfl) ?_
                        refine lv_icmp_ne (tgt := 364) hx hb dL_comesTrue_333 (by decide) (fun c1041 => ?_) (fun c1041 => ?_)
                        · rw [if_neg c1041] at h
                          refine lv_iconst (v := 0) hx hb dL_comesTrue_364 (by decide) ?_
                          cases h
                        · rw [if_pos c1041] at h
                          refine lv_aload_n hx hb dL_comesTrue_336 rfl (lv_at hl 4 rfl) ?_
                          refine lv_iload hx hb dL_comesTrue_337 (lv_at hl 2 rfl) ?_
                          refine lv_iconst (v := 5) hx hb dL_comesTrue_339 (by decide) ?_
                          obtain ⟨r1042, Mw1043, h1044, h⟩ := bind2 h
                          refine cBackC C.2.2.2.2.2.2.2.2 (runVU (As := [.int (r1004), .int (5)]) (rest := []) C hW hS (c_X10_bell l g Mw1038 r1004 5 _ _ h1044) kV_X10_bell ml_L_26 (by decide) tm_BF rfl rfl rfl hl.1 rfl (Nat.le_of_ble_eq_true rfl) ⟨Nat.le_of_ble_eq_true rfl, Nat.le_of_ble_eq_true rfl⟩ ⟨Nat.zero_le _, Nat.zero_le _⟩ dL_comesTrue_340) hS (fun v0 w0 H locs hp hW hS hq => ?_)
                          obtain ⟨rfl, rfl⟩ := hp
                          refine lv_aload_n hx hb dL_comesTrue_343 rfl (lv_at hl 4 rfl) ?_
                          refine lv_iload hx hb dL_comesTrue_344 (lv_at hl 6 rfl) ?_
                          refine lv_iconst (v := 1) hx hb dL_comesTrue_346 (by decide) ?_
                          obtain ⟨r1045, Mw1046, h1047, h⟩ := bind2 h
                          refine cBackC C.2.2.2.2.2.2.2.2 (runVU (As := [.int (j), .int (1)]) (rest := [.int (r1042)]) C hW hS (c_X10_orderOf l g Mw1043 j 1 _ _ h1047) kV_X10_orderOf ml_L_29 (by decide) tm_BF rfl rfl rfl hl.1 rfl (Nat.le_of_ble_eq_true rfl) ⟨Nat.le_of_ble_eq_true rfl, Nat.le_of_ble_eq_true rfl⟩ ⟨Nat.zero_le _, Nat.zero_le _⟩ dL_comesTrue_347) hS (fun v0 w0 H locs hp hW hS hq => ?_)
                          obtain ⟨rfl, rfl⟩ := hp
                          refine lv_icmp_ge (tgt := 364) hx hb dL_comesTrue_350 (by decide) (fun c1048 => ?_) (fun c1048 => ?_)
                          · rw [if_pos c1048] at h
                            refine lv_iconst (v := 0) hx hb dL_comesTrue_364 (by decide) ?_
                            cases h
                          · rw [if_neg c1048] at h
                            refine lv_aload_n hx hb dL_comesTrue_353 rfl (lv_at hl 4 rfl) ?_
                            obtain ⟨r1049, Mw1050, h1051, h⟩ := bind2 h
                            refine cBackC C.2.2.2.2.2.2.2.2 (runVU (As := []) (rest := []) C hW hS (c_X10_undo l g Mw1046  _ _ h1051) kV_X10_undo ml_L_99 (by decide) tm_BF rfl rfl rfl hl.1 rfl (Nat.le_of_ble_eq_true rfl) ⟨Nat.le_of_ble_eq_true rfl, Nat.le_of_ble_eq_true rfl⟩ ⟨Nat.zero_le _, Nat.zero_le _⟩ dL_comesTrue_354) hS (fun v0 w0 H locs hp hW hS hq => ?_)
                            obtain ⟨rfl, rfl⟩ := hp
                            refine lv_if_lt (tgt := 364) hx hb dL_comesTrue_357 (by decide) (fun c1052 => ?_) (fun c1052 => ?_)
                            · rw [if_pos c1052] at h
                              refine lv_iconst (v := 0) hx hb dL_comesTrue_364 (by decide) ?_
                              cases h
                            · rw [if_neg c1052] at h
                              refine lv_iconst (v := 1) hx hb dL_comesTrue_360 (by decide) ?_
                              refine lv_goto (tgt := 365) hx hb dL_comesTrue_361 (by decide) ?_
                              refine lv_istore (lv' := [(7, .int (1)), (10, .int (r1037)), (9, .int (r1004)), (8, .int (r1001)), (0, rf g (0)), (2, .long (wa)), (4, .int (j))]) hx hb dL_comesTrue_365 hl (by decide) rfl (fun ls hl => ?_)
                              exact t_L_comesTrue_367 l g FU Mw1050 wa _ _ h C hr hlk _ _ hW hS ls (lv_sub hl [4, 5, 0] rfl)
set_option maxHeartbeats 4000000 in
set_option maxRecDepth 100000 in
theorem c_L_comesTrue (l : Launch) (g : GD) (M : MM) (x : Int32) (r : Int32) (M2 : MM) (h : f_L_comesTrue M x = some (r, M2)) : Met l yL_comesTrue (wm yL_comesTrue cL_comesTrue 11 (some .boolean)) (RM 6 151) (va_Pc [rf g (0), .int (x)] (WDp g M)) (QU g (fun v w0 => v = .int r ∧ M2 = w0)) 0 0 (AU g) := by
  refine mkU (by decide +kernel) (Nat.le_of_ble_eq_true rfl) ?_
  intro p e s m below meth c C hr hlk hW hS ls hl
  have hl : lv_has ls 11 [(0, rf g (0)), (1, .int (x))] := hl
  have hx := C.1
  have hb := C.2.1
  have hts := C.2.2.2.2.1
  unfold f_L_comesTrue at h
  refine lv_aload_n hx hb dL_comesTrue_0 rfl (lv_at hl 0 rfl) ?_
  refine lv_iconst (v := 5) hx hb dL_comesTrue_1 (by decide) ?_
  obtain ⟨r1, Mw2, h3, h⟩ := bind2 h
  refine cBackC C.2.2.2.2.2.2.2.2 (runVU (As := [.int (5)]) (rest := []) C hW hS (c_X10_count l g M 5 _ _ h3) kV_X10_count ml_L_13 (by decide) tm_BF rfl rfl rfl hl.1 rfl (Nat.le_of_ble_eq_true rfl) ⟨Nat.le_of_ble_eq_true rfl, Nat.le_of_ble_eq_true rfl⟩ ⟨Nat.zero_le _, Nat.zero_le _⟩ dL_comesTrue_2) hS (fun v0 w0 H locs hp hW hS hq => ?_)
  obtain ⟨rfl, rfl⟩ := hp
  refine lv_if_eq (tgt := 16) hx hb dL_comesTrue_5 (by decide) (fun c4 => ?_) (fun c4 => ?_)
  · rw [if_pos c4] at h
    refine lv_iconst (v := 1) hx hb dL_comesTrue_16 (by decide) ?_
    cases h
    exact rZU C hr hlk dL_comesTrue_17 hW hS rfl ⟨rfl, rfl⟩
  · rw [if_neg c4] at h
    refine lv_aload_n hx hb dL_comesTrue_8 rfl (lv_at hl 0 rfl) ?_
    refine lv_iconst (v := 1) hx hb dL_comesTrue_9 (by decide) ?_
    obtain ⟨r5, Mw6, h7, h⟩ := bind2 h
    refine cBackC C.2.2.2.2.2.2.2.2 (runVU (As := [.int (1)]) (rest := []) C hW hS (c_X10_count l g Mw2 1 _ _ h7) kV_X10_count ml_L_13 (by decide) tm_BF rfl rfl rfl hl.1 rfl (Nat.le_of_ble_eq_true rfl) ⟨Nat.le_of_ble_eq_true rfl, Nat.le_of_ble_eq_true rfl⟩ ⟨Nat.zero_le _, Nat.zero_le _⟩ dL_comesTrue_10) hS (fun v0 w0 H locs hp hW hS hq => ?_)
    obtain ⟨rfl, rfl⟩ := hp
    refine lv_if_ne (tgt := 18) hx hb dL_comesTrue_13 (by decide) (fun c8 => ?_) (fun c8 => ?_)
    · rw [if_neg c8] at h
      refine lv_aload_n hx hb dL_comesTrue_18 rfl (lv_at hl 0 rfl) ?_
      obtain ⟨r9, Mw10, h11, h⟩ := bind2 h
      refine cBackL C.2.2.2.2.2.2.2.2 (runSU (As := [rf g (0)]) (rest := []) C hW hS (c_L_sum l g Mw6  _ _ h11) kS_L_sum ml_L_32 rfl hl.1 rfl (Nat.le_of_ble_eq_true rfl) ⟨Nat.le_of_ble_eq_true rfl, Nat.le_of_ble_eq_true rfl⟩ ⟨Nat.zero_le _, Nat.zero_le _⟩ dL_comesTrue_19) hS (fun v0 w0 H locs hp hW hS => ?_)
      obtain ⟨rfl, rfl⟩ := hp
      refine lv_lstore_n (lv' := [(2, .long (r9)), (0, rf g (0)), (1, .int (x))]) hx hb dL_comesTrue_22 rfl hl (by decide) rfl (fun ls hl => ?_)
      refine lv_iload_n hx hb dL_comesTrue_23 rfl (lv_at hl 2 rfl) ?_
      refine lv_aload_n hx hb dL_comesTrue_24 rfl (lv_at hl 1 rfl) ?_
      refine lv_iconst (v := 5) hx hb dL_comesTrue_25 (by decide) ?_
      obtain ⟨r12, Mw13, h14, h⟩ := bind2 h
      refine cBackC C.2.2.2.2.2.2.2.2 (runVU (As := [.int (5)]) (rest := [.int (x)]) C hW hS (c_X10_count l g Mw10 5 _ _ h14) kV_X10_count ml_L_13 (by decide) tm_BF rfl rfl rfl hl.1 rfl (Nat.le_of_ble_eq_true rfl) ⟨Nat.le_of_ble_eq_true rfl, Nat.le_of_ble_eq_true rfl⟩ ⟨Nat.zero_le _, Nat.zero_le _⟩ dL_comesTrue_26) hS (fun v0 w0 H locs hp hW hS hq => ?_)
      obtain ⟨rfl, rfl⟩ := hp
      obtain ⟨r15, Mw16, h17, h⟩ := bind2 h
      refine cBackL C.2.2.2.2.2.2.2.2 (runSU (As := [.int (x), .int (r12)]) (rest := []) C hW hS (c_L_low l g Mw13 x r12 _ _ h17) kS_L_low ml_L_96 rfl hl.1 rfl (Nat.le_of_ble_eq_true rfl) ⟨Nat.le_of_ble_eq_true rfl, Nat.le_of_ble_eq_true rfl⟩ ⟨Nat.zero_le _, Nat.zero_le _⟩ dL_comesTrue_29) hS (fun v0 w0 H locs hp hW hS => ?_)
      obtain ⟨rfl, rfl⟩ := hp
      refine lv_istore (lv' := [(4, .int (r15)), (2, .long (r9)), (0, rf g (0)), (1, .int (x))]) hx hb dL_comesTrue_32 hl (by decide) rfl (fun ls hl => ?_)
      refine lv_iload_n hx hb dL_comesTrue_34 rfl (lv_at hl 3 rfl) ?_
      refine lv_iconst (v := 4) hx hb dL_comesTrue_35 (by decide) ?_
      refine lv_ishr hx hb dL_comesTrue_36 ?_
      refine lv_aload_n hx hb dL_comesTrue_37 rfl (lv_at hl 2 rfl) ?_
      refine lv_iconst (v := 1) hx hb dL_comesTrue_38 (by decide) ?_
      obtain ⟨r18, Mw19, h20, h⟩ := bind2 h
      refine cBackC C.2.2.2.2.2.2.2.2 (runVU (As := [.int (1)]) (rest := [.int ((x) >>> ((4) &&& 31))]) C hW hS (c_X10_count l g Mw16 1 _ _ h20) kV_X10_count ml_L_13 (by decide) tm_BF rfl rfl rfl hl.1 rfl (Nat.le_of_ble_eq_true rfl) ⟨Nat.le_of_ble_eq_true rfl, Nat.le_of_ble_eq_true rfl⟩ ⟨Nat.zero_le _, Nat.zero_le _⟩ dL_comesTrue_39) hS (fun v0 w0 H locs hp hW hS hq => ?_)
      obtain ⟨rfl, rfl⟩ := hp
      obtain ⟨r21, Mw22, h23, h⟩ := bind2 h
      refine cBackL C.2.2.2.2.2.2.2.2 (runSU (As := [.int ((x) >>> ((4) &&& 31)), .int (r18)]) (rest := []) C hW hS (c_L_low l g Mw19 ((x) >>> ((4) &&& 31)) r18 _ _ h23) kS_L_low ml_L_96 rfl hl.1 rfl (Nat.le_of_ble_eq_true rfl) ⟨Nat.le_of_ble_eq_true rfl, Nat.le_of_ble_eq_true rfl⟩ ⟨Nat.zero_le _, Nat.zero_le _⟩ dL_comesTrue_42) hS (fun v0 w0 H locs hp hW hS => ?_)
      obtain ⟨rfl, rfl⟩ := hp
      refine lv_istore (lv' := [(5, .int (r21)), (4, .int (r15)), (2, .long (r9)), (0, rf g (0)), (1, .int (x))]) hx hb dL_comesTrue_45 hl (by decide) rfl (fun ls hl => ?_)
      refine lv_aload_n hx hb dL_comesTrue_47 rfl (lv_at hl 3 rfl) ?_
      refine lv_iload hx hb dL_comesTrue_48 (lv_at hl 0 rfl) ?_
      refine lv_iload hx hb dL_comesTrue_50 (lv_at hl 1 rfl) ?_
      obtain ⟨r24, Mw25, h26, h⟩ := bind2 h
      refine cBackC C.2.2.2.2.2.2.2.2 (runVU (As := [.int (r21), .int (r15)]) (rest := []) C hW hS (c_X10_tuneFor l g Mw22 r21 r15 _ _ h26) kV_X10_tuneFor ml_L_72 (by decide) tm_BF rfl rfl rfl hl.1 rfl (Nat.le_of_ble_eq_true rfl) ⟨Nat.le_of_ble_eq_true rfl, Nat.le_of_ble_eq_true rfl⟩ ⟨Nat.zero_le _, Nat.zero_le _⟩ dL_comesTrue_52) hS (fun v0 w0 H locs hp hW hS hq => ?_)
      obtain ⟨rfl, rfl⟩ := hp
      refine lv_istore (lv' := [(6, .int (r24)), (5, .int (r21)), (4, .int (r15)), (2, .long (r9)), (0, rf g (0)), (1, .int (x))]) hx hb dL_comesTrue_55 hl (by decide) rfl (fun ls hl => ?_)
      refine lv_iload hx hb dL_comesTrue_57 (lv_at hl 0 rfl) ?_
      refine lv_bipush (v := -2) hx hb dL_comesTrue_59 (by decide) ?_
      refine diaF (P := (r24 : Int32) = (-2 : Int32)) (A := 1) (B := 0) (F := fun z9 => W p l e (RM 6 151) s m [rf g (0), .int (x)].toArray below meth c H locs 0 0 (MQ below (QU g (fun v w0 => v = .int r ∧ M2 = w0)) [rf g (0), .int (x)].toArray s 0 0 (AU g)) (F0 m 69 ls [.int z9])) (fun a9 b9 => lv_icmp_ne (tgt := 68) hx hb dL_comesTrue_61 (by decide) a9 b9) (fun k9 => ?_) (fun k9 => ?_) ?_
      · refine lv_iconst (v := 0) hx hb dL_comesTrue_68 (by decide) ?_
        exact k9
      · refine lv_iconst (v := 1) hx hb dL_comesTrue_64 (by decide) ?_
        refine lv_goto (tgt := 69) hx hb dL_comesTrue_65 (by decide) ?_
        exact k9
      refine lv_aload_n hx hb dL_comesTrue_69 rfl (lv_at hl 4 rfl) ?_
      refine lv_iload hx hb dL_comesTrue_70 (lv_at hl 1 rfl) ?_
      refine lv_bipush (v := 8) hx hb dL_comesTrue_72 (by decide) ?_
      obtain ⟨r27, Mw28, h29, h⟩ := bind2 h
      refine cBackC C.2.2.2.2.2.2.2.2 (runVU (As := [.int (r21), .int (8)]) (rest := [.int (if (r24 : Int32) = (-2 : Int32) then (1 : Int32) else (0 : Int32))]) C hW hS (c_X10_bell l g Mw25 r21 8 _ _ h29) kV_X10_bell ml_L_26 (by decide) tm_BF rfl rfl rfl hl.1 rfl (Nat.le_of_ble_eq_true rfl) ⟨Nat.le_of_ble_eq_true rfl, Nat.le_of_ble_eq_true rfl⟩ ⟨Nat.zero_le _, Nat.zero_le _⟩ dL_comesTrue_74) hS (fun v0 w0 H locs hp hW hS hq => ?_)
      obtain ⟨rfl, rfl⟩ := hp
      refine diaT (P := (r27 : Int32) = 0) (A := 0) (B := 1) (F := fun z9 => W p l e (RM 6 151) s m [rf g (0), .int (x)].toArray below meth c H locs 0 0 (MQ below (QU g (fun v w0 => v = .int r ∧ M2 = w0)) [rf g (0), .int (x)].toArray s 0 0 (AU g)) (F0 m 85 ls [.int z9, .int (if (r24 : Int32) = (-2 : Int32) then (1 : Int32) else (0 : Int32))])) (fun a9 b9 => lv_if_eq (tgt := 84) hx hb dL_comesTrue_77 (by decide) a9 b9) (fun k9 => ?_) (fun k9 => ?_) ?_
      · refine lv_iconst (v := 0) hx hb dL_comesTrue_84 (by decide) ?_
        exact k9
      · refine lv_iconst (v := 1) hx hb dL_comesTrue_80 (by decide) ?_
        refine lv_goto (tgt := 85) hx hb dL_comesTrue_81 (by decide) ?_
        exact k9
      refine lv_icmp_ne (tgt := 92) hx hb dL_comesTrue_85 (by decide) (fun c30 => ?_) (fun c30 => ?_)
      · rw [if_neg c30] at h
        refine lv_iconst (v := 0) hx hb dL_comesTrue_92 (by decide) ?_
        cases h
      · rw [if_pos c30] at h
        refine lv_iconst (v := 1) hx hb dL_comesTrue_88 (by decide) ?_
        refine lv_goto (tgt := 93) hx hb dL_comesTrue_89 (by decide) ?_
        refine lv_istore (lv' := [(7, .int (1)), (6, .int (r24)), (5, .int (r21)), (4, .int (r15)), (2, .long (r9)), (0, rf g (0)), (1, .int (x))]) hx hb dL_comesTrue_93 hl (by decide) rfl (fun ls hl => ?_)
        refine lv_iload hx hb dL_comesTrue_95 (lv_at hl 1 rfl) ?_
        refine lv_if_le (tgt := 201) hx hb dL_comesTrue_97 (by decide) (fun c31 => ?_) (fun c31 => ?_)
        · rw [if_pos c31] at h
          exact t_L_comesTrue_201 l g FU Mw28 r9 r15 _ _ h C hr hlk _ _ hW hS ls (lv_sub hl [5, 4, 3, 0] rfl)
        · rw [if_neg c31] at h
          refine lv_iload hx hb dL_comesTrue_100 (lv_at hl 0 rfl) ?_
          refine lv_if_eq (tgt := 149) hx hb dL_comesTrue_102 (by decide) (fun c32 => ?_) (fun c32 => ?_)
          · rw [if_pos c32] at h
            cases h
          · rw [if_neg c32] at h
            refine lv_aload_n hx hb dL_comesTrue_105 rfl (lv_at hl 5 rfl) ?_
            refine lv_iload hx hb dL_comesTrue_106 (lv_at hl 2 rfl) ?_
            refine lv_iload hx hb dL_comesTrue_108 (lv_at hl 1 rfl) ?_
            obtain ⟨r33, Mw34, h35, h⟩ := bind2 h
            refine cBackC C.2.2.2.2.2.2.2.2 (runVU (As := [.int (r21), .int (r24)]) (rest := []) C hW hS (c_X10_tune l g Mw28 r21 r24 _ _ h35) kV_X10_tune ml_L_56 (by decide) tm_BF rfl rfl rfl hl.1 rfl (Nat.le_of_ble_eq_true rfl) ⟨Nat.le_of_ble_eq_true rfl, Nat.le_of_ble_eq_true rfl⟩ ⟨Nat.zero_le _, Nat.zero_le _⟩ dL_comesTrue_110) hS (fun v0 w0 H locs hp hW hS hq => ?_)
            obtain ⟨rfl, rfl⟩ := hp
            refine lv_if_le (tgt := 149) hx hb dL_comesTrue_113 (by decide) (fun c36 => ?_) (fun c36 => ?_)
            · rw [if_pos c36] at h
              refine lv_iconst (v := 0) hx hb dL_comesTrue_149 (by decide) ?_
              cases h
            · rw [if_neg c36] at h
              refine lv_aload_n hx hb dL_comesTrue_116 rfl (lv_at hl 5 rfl) ?_
              refine lv_iload hx hb dL_comesTrue_117 (lv_at hl 2 rfl) ?_
              refine lv_bipush (v := 8) hx hb dL_comesTrue_119 (by decide) ?_
              obtain ⟨r37, Mw38, h39, h⟩ := bind2 h
              refine cBackC C.2.2.2.2.2.2.2.2 (runVU (As := [.int (r21), .int (8)]) (rest := []) C hW hS (c_X10_bell l g Mw34 r21 8 _ _ h39) kV_X10_bell ml_L_26 (by decide) tm_BF rfl rfl rfl hl.1 rfl (Nat.le_of_ble_eq_true rfl) ⟨Nat.le_of_ble_eq_true rfl, Nat.le_of_ble_eq_true rfl⟩ ⟨Nat.zero_le _, Nat.zero_le _⟩ dL_comesTrue_121) hS (fun v0 w0 H locs hp hW hS hq => ?_)
              obtain ⟨rfl, rfl⟩ := hp
              refine lv_if_ne (tgt := 149) hx hb dL_comesTrue_124 (by decide) (fun c40 => ?_) (fun c40 => ?_)
              · rw [if_neg c40] at h
                refine lv_iconst (v := 0) hx hb dL_comesTrue_149 (by decide) ?_
                cases h
              · rw [if_pos c40] at h
                refine lv_aload_n hx hb dL_comesTrue_127 rfl (lv_at hl 5 rfl) ?_
                refine lv_iload hx hb dL_comesTrue_128 (lv_at hl 2 rfl) ?_
                refine lv_iload hx hb dL_comesTrue_130 (lv_at hl 3 rfl) ?_
                obtain ⟨r41, Mw42, h43, h⟩ := bind2 h
                refine cBackC C.2.2.2.2.2.2.2.2 (runVU (As := [.int (r21), .int (r15)]) (rest := []) C hW hS (c_X10_tuneFor l g Mw38 r21 r15 _ _ h43) kV_X10_tuneFor ml_L_72 (by decide) tm_BF rfl rfl rfl hl.1 rfl (Nat.le_of_ble_eq_true rfl) ⟨Nat.le_of_ble_eq_true rfl, Nat.le_of_ble_eq_true rfl⟩ ⟨Nat.zero_le _, Nat.zero_le _⟩ dL_comesTrue_132) hS (fun v0 w0 H locs hp hW hS hq => ?_)
                obtain ⟨rfl, rfl⟩ := hp
                refine lv_if_ne (tgt := 149) hx hb dL_comesTrue_135 (by decide) (fun c44 => ?_) (fun c44 => ?_)
                · rw [if_neg c44] at h
                  refine lv_iconst (v := 0) hx hb dL_comesTrue_149 (by decide) ?_
                  cases h
                · rw [if_pos c44] at h
                  refine lv_aload_n hx hb dL_comesTrue_138 rfl (lv_at hl 5 rfl) ?_
                  obtain ⟨r45, Mw46, h47, h⟩ := bind2 h
                  refine cBackC C.2.2.2.2.2.2.2.2 (runVU (As := []) (rest := []) C hW hS (c_X10_undo l g Mw42  _ _ h47) kV_X10_undo ml_L_99 (by decide) tm_BF rfl rfl rfl hl.1 rfl (Nat.le_of_ble_eq_true rfl) ⟨Nat.le_of_ble_eq_true rfl, Nat.le_of_ble_eq_true rfl⟩ ⟨Nat.zero_le _, Nat.zero_le _⟩ dL_comesTrue_139) hS (fun v0 w0 H locs hp hW hS hq => ?_)
                  obtain ⟨rfl, rfl⟩ := hp
                  refine lv_if_lt (tgt := 149) hx hb dL_comesTrue_142 (by decide) (fun c48 => ?_) (fun c48 => ?_)
                  · rw [if_pos c48] at h
                    refine lv_iconst (v := 0) hx hb dL_comesTrue_149 (by decide) ?_
                    cases h
                  · rw [if_neg c48] at h
                    refine lv_iconst (v := 1) hx hb dL_comesTrue_145 (by decide) ?_
                    refine lv_goto (tgt := 150) hx hb dL_comesTrue_146 (by decide) ?_
                    refine lv_istore (lv' := [(7, .int (1)), (6, .int (r24)), (5, .int (r21)), (4, .int (r15)), (2, .long (r9)), (0, rf g (0)), (1, .int (x))]) hx hb dL_comesTrue_150 hl (by decide) rfl (fun ls hl => ?_)
                    refine lv_iload hx hb dL_comesTrue_152 (lv_at hl 0 rfl) ?_
                    refine lv_if_eq (tgt := 198) hx hb dL_comesTrue_154 (by decide) (fun c49 => ?_) (fun c49 => ?_)
                    · rw [if_pos c49] at h
                      cases h
                    · rw [if_neg c49] at h
                      refine lv_iload hx hb dL_comesTrue_157 (lv_at hl 1 rfl) ?_
                      refine lv_iconst (v := 1) hx hb dL_comesTrue_159 (by decide) ?_
                      refine lv_icmp_eq (tgt := 194) hx hb dL_comesTrue_160 (by decide) (fun c50 => ?_) (fun c50 => ?_)
                      · rw [if_pos c50] at h
                        refine lv_iconst (v := 1) hx hb dL_comesTrue_194 (by decide) ?_
                        refine lv_goto (tgt := 199) hx hb dL_comesTrue_195 (by decide) ?_
                        refine lv_istore (lv' := [(7, .int (1)), (6, .int (r24)), (5, .int (r21)), (4, .int (r15)), (2, .long (r9)), (0, rf g (0)), (1, .int (x))]) hx hb dL_comesTrue_199 hl (by decide) rfl (fun ls hl => ?_)
                        exact t_L_comesTrue_201 l g FU Mw46 r9 r15 _ _ h C hr hlk _ _ hW hS ls (lv_sub hl [5, 4, 3, 0] rfl)
                      · rw [if_neg c50] at h
                        refine lv_aload_n hx hb dL_comesTrue_163 rfl (lv_at hl 5 rfl) ?_
                        refine lv_iload hx hb dL_comesTrue_164 (lv_at hl 2 rfl) ?_
                        refine lv_iload hx hb dL_comesTrue_166 (lv_at hl 1 rfl) ?_
                        refine lv_iconst (v := 1) hx hb dL_comesTrue_168 (by decide) ?_
                        refine lv_isub hx hb dL_comesTrue_169 ?_
                        obtain ⟨r51, Mw52, h53, h⟩ := bind2 h
                        refine cBackC C.2.2.2.2.2.2.2.2 (runVU (As := [.int (r21), .int ((r24) - (1))]) (rest := []) C hW hS (c_X10_tune l g Mw46 r21 ((r24) - (1)) _ _ h53) kV_X10_tune ml_L_56 (by decide) tm_BF rfl rfl rfl hl.1 rfl (Nat.le_of_ble_eq_true rfl) ⟨Nat.le_of_ble_eq_true rfl, Nat.le_of_ble_eq_true rfl⟩ ⟨Nat.zero_le _, Nat.zero_le _⟩ dL_comesTrue_170) hS (fun v0 w0 H locs hp hW hS hq => ?_)
                        obtain ⟨rfl, rfl⟩ := hp
                        refine lv_if_le (tgt := 198) hx hb dL_comesTrue_173 (by decide) (fun c54 => ?_) (fun c54 => ?_)
                        · rw [if_pos c54] at h
                          refine lv_iconst (v := 0) hx hb dL_comesTrue_198 (by decide) ?_
                          cases h
                        · rw [if_neg c54] at h
                          refine lv_aload_n hx hb dL_comesTrue_176 rfl (lv_at hl 5 rfl) ?_
                          refine lv_iload hx hb dL_comesTrue_177 (lv_at hl 2 rfl) ?_
                          refine lv_iload hx hb dL_comesTrue_179 (lv_at hl 3 rfl) ?_
                          obtain ⟨r55, Mw56, h57, h⟩ := bind2 h
                          refine cBackC C.2.2.2.2.2.2.2.2 (runVU (As := [.int (r21), .int (r15)]) (rest := []) C hW hS (c_X10_tuneFor l g Mw52 r21 r15 _ _ h57) kV_X10_tuneFor ml_L_72 (by decide) tm_BF rfl rfl rfl hl.1 rfl (Nat.le_of_ble_eq_true rfl) ⟨Nat.le_of_ble_eq_true rfl, Nat.le_of_ble_eq_true rfl⟩ ⟨Nat.zero_le _, Nat.zero_le _⟩ dL_comesTrue_181) hS (fun v0 w0 H locs hp hW hS hq => ?_)
                          obtain ⟨rfl, rfl⟩ := hp
                          refine lv_if_eq (tgt := 198) hx hb dL_comesTrue_184 (by decide) (fun c58 => ?_) (fun c58 => ?_)
                          · rw [if_pos c58] at h
                            refine lv_iconst (v := 0) hx hb dL_comesTrue_198 (by decide) ?_
                            cases h
                          · rw [if_neg c58] at h
                            refine lv_aload_n hx hb dL_comesTrue_187 rfl (lv_at hl 5 rfl) ?_
                            obtain ⟨r59, Mw60, h61, h⟩ := bind2 h
                            refine cBackC C.2.2.2.2.2.2.2.2 (runVU (As := []) (rest := []) C hW hS (c_X10_undo l g Mw56  _ _ h61) kV_X10_undo ml_L_99 (by decide) tm_BF rfl rfl rfl hl.1 rfl (Nat.le_of_ble_eq_true rfl) ⟨Nat.le_of_ble_eq_true rfl, Nat.le_of_ble_eq_true rfl⟩ ⟨Nat.zero_le _, Nat.zero_le _⟩ dL_comesTrue_188) hS (fun v0 w0 H locs hp hW hS hq => ?_)
                            obtain ⟨rfl, rfl⟩ := hp
                            refine lv_if_lt (tgt := 198) hx hb dL_comesTrue_191 (by decide) (fun c62 => ?_) (fun c62 => ?_)
                            · rw [if_pos c62] at h
                              refine lv_iconst (v := 0) hx hb dL_comesTrue_198 (by decide) ?_
                              cases h
                            · rw [if_neg c62] at h
                              refine lv_iconst (v := 1) hx hb dL_comesTrue_194 (by decide) ?_
                              refine lv_goto (tgt := 199) hx hb dL_comesTrue_195 (by decide) ?_
                              refine lv_istore (lv' := [(7, .int (1)), (6, .int (r24)), (5, .int (r21)), (4, .int (r15)), (2, .long (r9)), (0, rf g (0)), (1, .int (x))]) hx hb dL_comesTrue_199 hl (by decide) rfl (fun ls hl => ?_)
                              exact t_L_comesTrue_201 l g FU Mw60 r9 r15 _ _ h C hr hlk _ _ hW hS ls (lv_sub hl [5, 4, 3, 0] rfl)
    · rw [if_pos c8] at h
      refine lv_iconst (v := 1) hx hb dL_comesTrue_16 (by decide) ?_
      cases h
      exact rZU C hr hlk dL_comesTrue_17 hW hS rfl ⟨rfl, rfl⟩
