def lp_L_areLoads_225 (fu : Nat) (M : MM) (F : Nat → Int32) (he : Int32) (mn : Int32) : Option (Int32 × MM) := match fu with
  | 0 => none
  | n + 1 => (if (1 : Int32) = 0 then none else (bnd2 (f_X10_wagons M ((1) <<< ((he) &&& 31))) fun r2002 Mw2003 => (if (r2002 : Int32) = (-1 : Int32) then (if (mn : Int32) < (3 : Int32) then some (1, Mw2003) else (bnd2 (f_X10_clearText Mw2003 ) fun r2007 Mw2008 => (if 0 ≤ (r2007 : Int32) then (if (1 : Int32) = 0 then none else (bnd2 (f_X10_type Mw2008 40) fun r2012 Mw2013 => (if (r2012 : Int32) ≤ 0 then none else (bnd2 (f_X10_type Mw2013 40) fun r2016 Mw2017 => (if (r2016 : Int32) ≤ 0 then none else (bnd2 (f_L_number Mw2017 (F (0 : Int32).toNatClampNeg)) fun r2020 Mw2021 => (if (r2020 : Int32) = 0 then none else (bnd2 (f_X10_type Mw2021 44) fun r2024 Mw2025 => (if (r2024 : Int32) ≤ 0 then none else (bnd2 (f_X10_fault Mw2025 1) fun r2028 Mw2029 => (if (r2028 : Int32) = (4 : Int32) then (bnd2 (f_L_number Mw2029 (F (1 : Int32).toNatClampNeg)) fun r2032 Mw2033 => (if (r2032 : Int32) = 0 then none else (bnd2 (f_X10_type Mw2033 41) fun r2036 Mw2037 => (if (r2036 : Int32) ≤ 0 then none else (bnd2 (f_X10_type Mw2037 44) fun r2040 Mw2041 => (if (r2040 : Int32) ≤ 0 then none else (bnd2 (f_L_number Mw2041 (F (2 : Int32).toNatClampNeg)) fun r2044 Mw2045 => (if (r2044 : Int32) = 0 then none else (bnd2 (f_X10_type Mw2045 41) fun r2048 Mw2049 => (if (r2048 : Int32) ≤ 0 then none else (bnd2 (f_X10_bell Mw2049 (F (0 : Int32).toNatClampNeg) 2) fun r2052 Mw2053 => (bnd2 (f_X10_bell Mw2053 (F (1 : Int32).toNatClampNeg) 2) fun r2055 Mw2056 => (bnd2 (f_X10_bell Mw2056 (F (2 : Int32).toNatClampNeg) 2) fun r2058 Mw2059 => (letJ (if (r2052 : Int32) ≤ (r2055 : Int32) then ((r2055) - (r2052) : Int32) else ((r2052) - (r2055) : Int32)) fun x2061 => (letJ (if ((r2052) + (r2055) : Int32) ≤ (r2058 : Int32) then (((r2058) - (r2052)) - (r2055) : Int32) else (((r2052) + (r2055)) - (r2058) : Int32)) fun x2062 => (if (1 : Int32) = 0 then none else (bnd2 (f_X10_fault Mw2059 0) fun r2064 Mw2065 => (if (r2064 : Int32) = (-4 : Int32) then (bnd2 (f_X10_frame Mw2065 0) fun r2068 Mw2069 => (if (r2068 : Int32) = (((r2052) + (r2055)) + (r2058) : Int32) then (bnd2 (f_X10_frame Mw2069 1) fun r2072 Mw2073 => (if (r2072 : Int32) = (3 : Int32) then (bnd2 (f_X10_frame Mw2073 2) fun r2076 Mw2077 => (if (r2076 : Int32) = (2 : Int32) then (bnd2 (f_X10_frame Mw2077 3) fun r2080 Mw2081 => (if (r2080 : Int32) = (2 : Int32) then (bnd2 (f_X10_frame Mw2081 4) fun r2084 Mw2085 => (if (r2084 : Int32) = (if (x2061 : Int32) ≤ (x2062 : Int32) then (x2062 : Int32) else (x2061 : Int32) : Int32) then (bnd2 (f_X10_frame Mw2085 0) fun r2088 Mw2089 => (bnd2 (f_X10_frame Mw2089 5) fun r2091 Mw2092 => (if (((r2088) + (r2091)) - ((r2088) + (r2091)) / (4) * (4) : Int32) = 0 then (bnd2 (f_X10_frame Mw2092 0) fun r2096 Mw2097 => (bnd2 (f_X10_frame Mw2097 5) fun r2099 Mw2100 => (if ((r2096) + (r2099) : Int32) < ((2) * (r2058) : Int32) then none else (bnd2 (f_X10_frame Mw2100 0) fun r2103 Mw2104 => (bnd2 (f_X10_frame Mw2104 5) fun r2106 Mw2107 => (if ((r2103) + (r2106) : Int32) < ((4) * (if (r2052 : Int32) ≤ (r2055 : Int32) then (r2055 : Int32) else (r2052 : Int32)) : Int32) then none else (if (1 : Int32) = 0 then none else (bnd2 (f_X10_type Mw2107 44) fun r2111 Mw2112 => (if (r2111 : Int32) ≤ 0 then none else (bnd2 (f_X10_fault Mw2112 1) fun r2115 Mw2116 => (if (r2115 : Int32) = (1 : Int32) then (bnd2 (f_X10_fault Mw2116 0) fun r2119 Mw2120 => (bnd2 (f_X10_count Mw2120 9) fun r2122 Mw2123 => (if (r2119 : Int32) = ((r2122) - (1) : Int32) then (bnd2 (f_X10_clearText Mw2123 ) fun r2126 Mw2127 => (if (r2126 : Int32) ≤ 0 then none else some (1, Mw2127))) else none))) else none))))))))))) else none))) else none)) else none)) else none)) else none)) else none)) else none)))))))))))))))))) else none))))))))))) else some (1, Mw2008)))) else none)))
def lp_L_areLoads_57 (fu : Nat) (M : MM) (F : Nat → Int32) (he : Int32) (se : Int32) (lo : Int32) (su : Int32) (nn : Int32) (ta : Int32) (li : Int32) (mn : Int32) (z : Int32) : Option (Int32 × MM) := match fu with
  | 0 => none
  | n + 1 => (bnd2 (f_X10_count M 1) fun r1001 Mw1002 => (if (r1001 : Int32) ≤ (z : Int32) then (bnd2 (f_X10_wagons Mw1002 se) fun r1005 Mw1006 => (if (li : Int32) = 0 then (if (r1005 : Int32) = (-2 : Int32) then (lp_L_areLoads_225 FU Mw1006 F he mn) else none) else (if (lo : Int32) = 0 then none else (if (r1005 : Int32) < ((((su) + (lo)) - (1)) / (lo) : Int32) then none else (if (nn : Int32) < (r1005 : Int32) then none else (if (if (se : Int32) = 0 then (1 : Int32) else (0 : Int32) : Int32) = (if (r1005 : Int32) = 0 then (1 : Int32) else (0 : Int32) : Int32) then (lp_L_areLoads_225 FU Mw1006 F he mn) else none)))))) else (bnd2 (f_X10_bell Mw1002 z 8) fun r1014 Mw1015 => (if (2 : Int32) ≤ (r1014 : Int32) then (lp_L_areLoads_57 n Mw1015 F he se lo su nn ta li mn (z + 1)) else (if (((se) >>> ((ta) &&& 31)) &&& (1) : Int32) = (1 : Int32) then (bnd2 (f_X10_bell Mw1015 z 2) fun r1020 Mw1021 => (if (li : Int32) = 0 then (if vin (mn) 12 then (lp_L_areLoads_57 n Mw1021 (upd F (mn : Int32).toNatClampNeg (z)) he se lo ((su) + (r1020)) (nn + 1) (ta + 1) 0 (mn + 1) (z + 1)) else none) else (bnd2 (f_X10_bell Mw1021 z 2) fun r1025 Mw1026 => (if (lo : Int32) < (r1025 : Int32) then (if vin (mn) 12 then (lp_L_areLoads_57 n Mw1026 (upd F (mn : Int32).toNatClampNeg (z)) he se lo ((su) + (r1020)) (nn + 1) (ta + 1) 0 (mn + 1) (z + 1)) else none) else (if vin (mn) 12 then (lp_L_areLoads_57 n Mw1026 (upd F (mn : Int32).toNatClampNeg (z)) he se lo ((su) + (r1020)) (nn + 1) (ta + 1) 1 (mn + 1) (z + 1)) else none))))) else (if vin (mn) 12 then (lp_L_areLoads_57 n Mw1015 (upd F (mn : Int32).toNatClampNeg (z)) he se lo su nn (ta + 1) li (mn + 1) (z + 1)) else none))))))
def f_L_areLoads (M : MM) (x : Int32) : Option (Int32 × MM) := (bnd2 (f_X10_count M 2) fun r1 Mw2 => (bnd2 (f_L_low Mw2 x ((1) <<< ((if (6 : Int32) ≤ (r1 : Int32) then (6 : Int32) else (r1 : Int32)) &&& 31))) fun r4 Mw5 => (bnd2 (f_X10_count Mw5 26) fun r7 Mw8 => (lp_L_areLoads_57 FU Mw8 (fun _ => 0) r1 r4 r7 0 0 0 1 0 0))))
set_option maxHeartbeats 4000000 in
set_option maxRecDepth 100000 in
theorem t_L_areLoads_225 (l : Launch) (g : GD)  {p : Program} {e : Env} {s : State} {m : MethodId} {av : Array Value} {below : List Frame} {meth : Method} {c : Code} {wq : Nat} (n : Nat) : ∀ (M : MM) (F : Nat → Int32) (he : Int32) (mn : Int32) (r : Int32) (M2 : MM), lp_L_areLoads_225 n M F he mn = some (r, M2) → CX p s m av c cL_areLoads 21 RL g → meth.sig.returnType = (some .boolean) → meth.locks = false → ∀ (H : Heap) (locs : List Loc), Wd g M H → sU g s H locs → YW g s wq F H → ∀ ls : Array Slot, lv_has ls 21 [(0, rf g (0)), (2, .int (he)), (9, .ref wq), (10, .int (mn)), (12, .int (1))] → W p l e (RN 6 152 1 12) s m av below meth c H locs 1 12 (MQ below (QU g (fun v w0 => v = .int r ∧ M2 = w0)) av s 1 12 (AU g)) (F0 m 225 ls []) := by
  induction n with
  | zero => intro M F he mn r M2 h; cases h
  | succ n ih0 =>
    intro M F he mn r M2 h C hr hlk H locs hW hS hY ls hl
    have ih : ∀ (M : MM) (F : Nat → Int32) (he : Int32) (mn : Int32), lp_L_areLoads_225 n M F he mn = some (r, M2) → ∀ (H : Heap) (locs : List Loc), Wd g M H → sU g s H locs → YW g s wq F H → ∀ ls : Array Slot, lv_has ls 21 [(0, rf g (0)), (2, .int (he)), (9, .ref wq), (10, .int (mn)), (12, .int (1))] → W p l e (RN 6 152 1 12) s m av below meth c H locs 1 12 (MQ below (QU g (fun v w0 => v = .int r ∧ M2 = w0)) av s 1 12 (AU g)) (F0 m 225 ls []) := fun M F he mn h H locs hW hS hY ls hl => ih0 M F he mn r M2 h C hr hlk H locs hW hS hY ls hl
    unfold lp_L_areLoads_225 at h
    try dsimp only at h
    have hx := C.1
    have hb := C.2.1
    have hts := C.2.2.2.2.1
    refine lv_iload hx hb dL_areLoads_225 (lv_at hl 4 rfl) ?_
    refine lv_if_eq (tgt := 245) hx hb dL_areLoads_227 (by decide) (fun c2001 => ?_) (fun c2001 => ?_)
    · rw [if_pos c2001] at h
      cases h
    · rw [if_neg c2001] at h
      refine lv_aload_n hx hb dL_areLoads_230 rfl (lv_at hl 0 rfl) ?_
      refine lv_iconst (v := 1) hx hb dL_areLoads_231 (by decide) ?_
      refine lv_iload_n hx hb dL_areLoads_232 rfl (lv_at hl 1 rfl) ?_
      refine lv_ishl hx hb dL_areLoads_233 ?_
      obtain ⟨r2002, Mw2003, h2004, h⟩ := bind2 h
      refine cBackC C.2.2.2.2.2.2.2.2 (runVU (As := [.int ((1) <<< ((he) &&& 31))]) (rest := []) C hW hS (c_X10_wagons l g M ((1) <<< ((he) &&& 31)) _ _ h2004) kV_X10_wagons ml_L_78 (by decide) tm_BF rfl rfl rfl hl.1 rfl (Nat.le_of_ble_eq_true rfl) ⟨Nat.le_of_ble_eq_true rfl, Nat.le_of_ble_eq_true rfl⟩ ⟨Nat.le_of_ble_eq_true rfl, Nat.le_of_ble_eq_true rfl⟩ dL_areLoads_234) hS (fun v0 w0 H locs hp hW hS hq => ?_)
      obtain ⟨rfl, rfl⟩ := hp
      have hY := hY.kept hq
      refine lv_iconst (v := -1) hx hb dL_areLoads_237 (by decide) ?_
      refine lv_icmp_ne (tgt := 245) hx hb dL_areLoads_238 (by decide) (fun c2005 => ?_) (fun c2005 => ?_)
      · rw [if_neg c2005] at h
        refine lv_iconst (v := 0) hx hb dL_areLoads_245 (by decide) ?_
        cases h
      · rw [if_pos c2005] at h
        refine lv_iconst (v := 1) hx hb dL_areLoads_241 (by decide) ?_
        refine lv_goto (tgt := 246) hx hb dL_areLoads_242 (by decide) ?_
        refine lv_istore (lv' := [(12, .int (1)), (0, rf g (0)), (2, .int (he)), (9, .ref wq), (10, .int (mn))]) hx hb dL_areLoads_246 hl (by decide) rfl (fun ls hl => ?_)
        refine lv_iload hx hb dL_areLoads_248 (lv_at hl 4 rfl) ?_
        refine lv_iconst (v := 3) hx hb dL_areLoads_250 (by decide) ?_
        refine lv_icmp_lt (tgt := 261) hx hb dL_areLoads_251 (by decide) (fun c2006 => ?_) (fun c2006 => ?_)
        · rw [if_pos c2006] at h
          refine lv_iload hx hb dL_areLoads_261 (lv_at hl 0 rfl) ?_
          cases h
          exact rZU C hr hlk dL_areLoads_263 hW hS rfl ⟨rfl, rfl⟩
        · rw [if_neg c2006] at h
          refine lv_aload_n hx hb dL_areLoads_254 rfl (lv_at hl 1 rfl) ?_
          obtain ⟨r2007, Mw2008, h2009, h⟩ := bind2 h
          refine cBackC C.2.2.2.2.2.2.2.2 (runVU (As := []) (rest := []) C hW hS (c_X10_clearText l g Mw2003  _ _ h2009) kV_X10_clearText ml_L_103 (by decide) tm_BF rfl rfl rfl hl.1 rfl (Nat.le_of_ble_eq_true rfl) ⟨Nat.le_of_ble_eq_true rfl, Nat.le_of_ble_eq_true rfl⟩ ⟨Nat.le_of_ble_eq_true rfl, Nat.le_of_ble_eq_true rfl⟩ dL_areLoads_255) hS (fun v0 w0 H locs hp hW hS hq => ?_)
          obtain ⟨rfl, rfl⟩ := hp
          have hY := hY.kept hq
          refine lv_if_ge (tgt := 264) hx hb dL_areLoads_258 (by decide) (fun c2010 => ?_) (fun c2010 => ?_)
          · rw [if_pos c2010] at h
            refine lv_aload hx hb dL_areLoads_264 (lv_at hl 3 rfl) ?_
            refine lv_iconst (v := 0) hx hb dL_areLoads_266 (by decide) ?_
            refine rIldW C hY (by decide) dL_areLoads_267 ?_
            refine lv_istore (lv' := [(13, .int (F (0 : Int32).toNatClampNeg)), (12, .int (1)), (0, rf g (0)), (2, .int (he)), (9, .ref wq), (10, .int (mn))]) hx hb dL_areLoads_268 hl (by decide) rfl (fun ls hl => ?_)
            refine lv_aload hx hb dL_areLoads_270 (lv_at hl 4 rfl) ?_
            refine lv_iconst (v := 1) hx hb dL_areLoads_272 (by decide) ?_
            refine rIldW C hY (by decide) dL_areLoads_273 ?_
            refine lv_istore (lv' := [(14, .int (F (1 : Int32).toNatClampNeg)), (13, .int (F (0 : Int32).toNatClampNeg)), (12, .int (1)), (0, rf g (0)), (2, .int (he)), (9, .ref wq), (10, .int (mn))]) hx hb dL_areLoads_274 hl (by decide) rfl (fun ls hl => ?_)
            refine lv_aload hx hb dL_areLoads_276 (lv_at hl 5 rfl) ?_
            refine lv_iconst (v := 2) hx hb dL_areLoads_278 (by decide) ?_
            refine rIldW C hY (by decide) dL_areLoads_279 ?_
            refine lv_istore (lv' := [(15, .int (F (2 : Int32).toNatClampNeg)), (14, .int (F (1 : Int32).toNatClampNeg)), (13, .int (F (0 : Int32).toNatClampNeg)), (12, .int (1)), (0, rf g (0)), (2, .int (he)), (9, .ref wq), (10, .int (mn))]) hx hb dL_areLoads_280 hl (by decide) rfl (fun ls hl => ?_)
            refine lv_iload hx hb dL_areLoads_282 (lv_at hl 3 rfl) ?_
            refine lv_if_eq (tgt := 381) hx hb dL_areLoads_284 (by decide) (fun c2011 => ?_) (fun c2011 => ?_)
            · rw [if_pos c2011] at h
              cases h
            · rw [if_neg c2011] at h
              refine lv_aload_n hx hb dL_areLoads_287 rfl (lv_at hl 4 rfl) ?_
              refine lv_bipush (v := 40) hx hb dL_areLoads_288 (by decide) ?_
              obtain ⟨r2012, Mw2013, h2014, h⟩ := bind2 h
              refine cBackC C.2.2.2.2.2.2.2.2 (runVU (As := [.int (40)]) (rest := []) C hW hS (c_X10_type l g Mw2008 40 _ _ h2014) kV_X10_type ml_L_106 (by decide) tm_BF rfl rfl rfl hl.1 rfl (Nat.le_of_ble_eq_true rfl) ⟨Nat.le_of_ble_eq_true rfl, Nat.le_of_ble_eq_true rfl⟩ ⟨Nat.le_of_ble_eq_true rfl, Nat.le_of_ble_eq_true rfl⟩ dL_areLoads_290) hS (fun v0 w0 H locs hp hW hS hq => ?_)
              obtain ⟨rfl, rfl⟩ := hp
              have hY := hY.kept hq
              refine lv_if_le (tgt := 381) hx hb dL_areLoads_293 (by decide) (fun c2015 => ?_) (fun c2015 => ?_)
              · rw [if_pos c2015] at h
                refine lv_iconst (v := 0) hx hb dL_areLoads_381 (by decide) ?_
                cases h
              · rw [if_neg c2015] at h
                refine lv_aload_n hx hb dL_areLoads_296 rfl (lv_at hl 4 rfl) ?_
                refine lv_bipush (v := 40) hx hb dL_areLoads_297 (by decide) ?_
                obtain ⟨r2016, Mw2017, h2018, h⟩ := bind2 h
                refine cBackC C.2.2.2.2.2.2.2.2 (runVU (As := [.int (40)]) (rest := []) C hW hS (c_X10_type l g Mw2013 40 _ _ h2018) kV_X10_type ml_L_106 (by decide) tm_BF rfl rfl rfl hl.1 rfl (Nat.le_of_ble_eq_true rfl) ⟨Nat.le_of_ble_eq_true rfl, Nat.le_of_ble_eq_true rfl⟩ ⟨Nat.le_of_ble_eq_true rfl, Nat.le_of_ble_eq_true rfl⟩ dL_areLoads_299) hS (fun v0 w0 H locs hp hW hS hq => ?_)
                obtain ⟨rfl, rfl⟩ := hp
                have hY := hY.kept hq
                refine lv_if_le (tgt := 381) hx hb dL_areLoads_302 (by decide) (fun c2019 => ?_) (fun c2019 => ?_)
                · rw [if_pos c2019] at h
                  refine lv_iconst (v := 0) hx hb dL_areLoads_381 (by decide) ?_
                  cases h
                · rw [if_neg c2019] at h
                  refine lv_aload_n hx hb dL_areLoads_305 rfl (lv_at hl 4 rfl) ?_
                  refine lv_iload hx hb dL_areLoads_306 (lv_at hl 2 rfl) ?_
                  obtain ⟨r2020, Mw2021, h2022, h⟩ := bind2 h
                  refine cBackL C.2.2.2.2.2.2.2.2 (runSU (As := [rf g (0), .int (F (0 : Int32).toNatClampNeg)]) (rest := []) C hW hS (c_L_number l g Mw2017 (F (0 : Int32).toNatClampNeg) _ _ h2022) kS_L_number ml_L_109 rfl hl.1 rfl (Nat.le_of_ble_eq_true rfl) ⟨Nat.le_of_ble_eq_true rfl, Nat.le_of_ble_eq_true rfl⟩ ⟨Nat.le_of_ble_eq_true rfl, Nat.le_of_ble_eq_true rfl⟩ dL_areLoads_308) hS (fun v0 w0 H locs hp hW hS => ?_)
                  obtain ⟨rfl, rfl⟩ := hp
                  refine lv_if_eq (tgt := 381) hx hb dL_areLoads_311 (by decide) (fun c2023 => ?_) (fun c2023 => ?_)
                  · rw [if_pos c2023] at h
                    refine lv_iconst (v := 0) hx hb dL_areLoads_381 (by decide) ?_
                    cases h
                  · rw [if_neg c2023] at h
                    refine lv_aload_n hx hb dL_areLoads_314 rfl (lv_at hl 4 rfl) ?_
                    refine lv_bipush (v := 44) hx hb dL_areLoads_315 (by decide) ?_
                    obtain ⟨r2024, Mw2025, h2026, h⟩ := bind2 h
                    refine cBackC C.2.2.2.2.2.2.2.2 (runVU (As := [.int (44)]) (rest := []) C hW hS (c_X10_type l g Mw2021 44 _ _ h2026) kV_X10_type ml_L_106 (by decide) tm_BF rfl rfl rfl hl.1 rfl (Nat.le_of_ble_eq_true rfl) ⟨Nat.le_of_ble_eq_true rfl, Nat.le_of_ble_eq_true rfl⟩ ⟨Nat.le_of_ble_eq_true rfl, Nat.le_of_ble_eq_true rfl⟩ dL_areLoads_317) hS (fun v0 w0 H locs hp hW hS hq => ?_)
                    obtain ⟨rfl, rfl⟩ := hp
                    refine lv_if_le (tgt := 381) hx hb dL_areLoads_320 (by decide) (fun c2027 => ?_) (fun c2027 => ?_)
                    · rw [if_pos c2027] at h
                      refine lv_iconst (v := 0) hx hb dL_areLoads_381 (by decide) ?_
                      cases h
                    · rw [if_neg c2027] at h
                      refine lv_aload_n hx hb dL_areLoads_323 rfl (lv_at hl 4 rfl) ?_
                      refine lv_iconst (v := 1) hx hb dL_areLoads_324 (by decide) ?_
                      obtain ⟨r2028, Mw2029, h2030, h⟩ := bind2 h
                      refine cBackC C.2.2.2.2.2.2.2.2 (runVU (As := [.int (1)]) (rest := []) C hW hS (c_X10_fault l g Mw2025 1 _ _ h2030) kV_X10_fault ml_L_84 (by decide) tm_BF rfl rfl rfl hl.1 rfl (Nat.le_of_ble_eq_true rfl) ⟨Nat.le_of_ble_eq_true rfl, Nat.le_of_ble_eq_true rfl⟩ ⟨Nat.le_of_ble_eq_true rfl, Nat.le_of_ble_eq_true rfl⟩ dL_areLoads_325) hS (fun v0 w0 H locs hp hW hS hq => ?_)
                      obtain ⟨rfl, rfl⟩ := hp
                      refine lv_iconst (v := 4) hx hb dL_areLoads_328 (by decide) ?_
                      refine lv_icmp_ne (tgt := 381) hx hb dL_areLoads_329 (by decide) (fun c2031 => ?_) (fun c2031 => ?_)
                      · rw [if_neg c2031] at h
                        refine lv_iconst (v := 0) hx hb dL_areLoads_381 (by decide) ?_
                        cases h
                      · rw [if_pos c2031] at h
                        refine lv_aload_n hx hb dL_areLoads_332 rfl (lv_at hl 4 rfl) ?_
                        refine lv_iload hx hb dL_areLoads_333 (lv_at hl 1 rfl) ?_
                        obtain ⟨r2032, Mw2033, h2034, h⟩ := bind2 h
                        refine cBackL C.2.2.2.2.2.2.2.2 (runSU (As := [rf g (0), .int (F (1 : Int32).toNatClampNeg)]) (rest := []) C hW hS (c_L_number l g Mw2029 (F (1 : Int32).toNatClampNeg) _ _ h2034) kS_L_number ml_L_109 rfl hl.1 rfl (Nat.le_of_ble_eq_true rfl) ⟨Nat.le_of_ble_eq_true rfl, Nat.le_of_ble_eq_true rfl⟩ ⟨Nat.le_of_ble_eq_true rfl, Nat.le_of_ble_eq_true rfl⟩ dL_areLoads_335) hS (fun v0 w0 H locs hp hW hS => ?_)
                        obtain ⟨rfl, rfl⟩ := hp
                        refine lv_if_eq (tgt := 381) hx hb dL_areLoads_338 (by decide) (fun c2035 => ?_) (fun c2035 => ?_)
                        · rw [if_pos c2035] at h
                          refine lv_iconst (v := 0) hx hb dL_areLoads_381 (by decide) ?_
                          cases h
                        · rw [if_neg c2035] at h
                          refine lv_aload_n hx hb dL_areLoads_341 rfl (lv_at hl 4 rfl) ?_
                          refine lv_bipush (v := 41) hx hb dL_areLoads_342 (by decide) ?_
                          obtain ⟨r2036, Mw2037, h2038, h⟩ := bind2 h
                          refine cBackC C.2.2.2.2.2.2.2.2 (runVU (As := [.int (41)]) (rest := []) C hW hS (c_X10_type l g Mw2033 41 _ _ h2038) kV_X10_type ml_L_106 (by decide) tm_BF rfl rfl rfl hl.1 rfl (Nat.le_of_ble_eq_true rfl) ⟨Nat.le_of_ble_eq_true rfl, Nat.le_of_ble_eq_true rfl⟩ ⟨Nat.le_of_ble_eq_true rfl, Nat.le_of_ble_eq_true rfl⟩ dL_areLoads_344) hS (fun v0 w0 H locs hp hW hS hq => ?_)
                          obtain ⟨rfl, rfl⟩ := hp
                          refine lv_if_le (tgt := 381) hx hb dL_areLoads_347 (by decide) (fun c2039 => ?_) (fun c2039 => ?_)
                          · rw [if_pos c2039] at h
                            refine lv_iconst (v := 0) hx hb dL_areLoads_381 (by decide) ?_
                            cases h
                          · rw [if_neg c2039] at h
                            refine lv_aload_n hx hb dL_areLoads_350 rfl (lv_at hl 4 rfl) ?_
                            refine lv_bipush (v := 44) hx hb dL_areLoads_351 (by decide) ?_
                            obtain ⟨r2040, Mw2041, h2042, h⟩ := bind2 h
                            refine cBackC C.2.2.2.2.2.2.2.2 (runVU (As := [.int (44)]) (rest := []) C hW hS (c_X10_type l g Mw2037 44 _ _ h2042) kV_X10_type ml_L_106 (by decide) tm_BF rfl rfl rfl hl.1 rfl (Nat.le_of_ble_eq_true rfl) ⟨Nat.le_of_ble_eq_true rfl, Nat.le_of_ble_eq_true rfl⟩ ⟨Nat.le_of_ble_eq_true rfl, Nat.le_of_ble_eq_true rfl⟩ dL_areLoads_353) hS (fun v0 w0 H locs hp hW hS hq => ?_)
                            obtain ⟨rfl, rfl⟩ := hp
                            refine lv_if_le (tgt := 381) hx hb dL_areLoads_356 (by decide) (fun c2043 => ?_) (fun c2043 => ?_)
                            · rw [if_pos c2043] at h
                              refine lv_iconst (v := 0) hx hb dL_areLoads_381 (by decide) ?_
                              cases h
                            · rw [if_neg c2043] at h
                              refine lv_aload_n hx hb dL_areLoads_359 rfl (lv_at hl 4 rfl) ?_
                              refine lv_iload hx hb dL_areLoads_360 (lv_at hl 0 rfl) ?_
                              obtain ⟨r2044, Mw2045, h2046, h⟩ := bind2 h
                              refine cBackL C.2.2.2.2.2.2.2.2 (runSU (As := [rf g (0), .int (F (2 : Int32).toNatClampNeg)]) (rest := []) C hW hS (c_L_number l g Mw2041 (F (2 : Int32).toNatClampNeg) _ _ h2046) kS_L_number ml_L_109 rfl hl.1 rfl (Nat.le_of_ble_eq_true rfl) ⟨Nat.le_of_ble_eq_true rfl, Nat.le_of_ble_eq_true rfl⟩ ⟨Nat.le_of_ble_eq_true rfl, Nat.le_of_ble_eq_true rfl⟩ dL_areLoads_362) hS (fun v0 w0 H locs hp hW hS => ?_)
                              obtain ⟨rfl, rfl⟩ := hp
                              refine lv_if_eq (tgt := 381) hx hb dL_areLoads_365 (by decide) (fun c2047 => ?_) (fun c2047 => ?_)
                              · rw [if_pos c2047] at h
                                refine lv_iconst (v := 0) hx hb dL_areLoads_381 (by decide) ?_
                                cases h
                              · rw [if_neg c2047] at h
                                refine lv_aload_n hx hb dL_areLoads_368 rfl (lv_at hl 4 rfl) ?_
                                refine lv_bipush (v := 41) hx hb dL_areLoads_369 (by decide) ?_
                                obtain ⟨r2048, Mw2049, h2050, h⟩ := bind2 h
                                refine cBackC C.2.2.2.2.2.2.2.2 (runVU (As := [.int (41)]) (rest := []) C hW hS (c_X10_type l g Mw2045 41 _ _ h2050) kV_X10_type ml_L_106 (by decide) tm_BF rfl rfl rfl hl.1 rfl (Nat.le_of_ble_eq_true rfl) ⟨Nat.le_of_ble_eq_true rfl, Nat.le_of_ble_eq_true rfl⟩ ⟨Nat.le_of_ble_eq_true rfl, Nat.le_of_ble_eq_true rfl⟩ dL_areLoads_371) hS (fun v0 w0 H locs hp hW hS hq => ?_)
                                obtain ⟨rfl, rfl⟩ := hp
                                refine lv_if_le (tgt := 381) hx hb dL_areLoads_374 (by decide) (fun c2051 => ?_) (fun c2051 => ?_)
                                · rw [if_pos c2051] at h
                                  refine lv_iconst (v := 0) hx hb dL_areLoads_381 (by decide) ?_
                                  cases h
                                · rw [if_neg c2051] at h
                                  refine lv_iconst (v := 1) hx hb dL_areLoads_377 (by decide) ?_
                                  refine lv_goto (tgt := 382) hx hb dL_areLoads_378 (by decide) ?_
                                  refine lv_istore (lv' := [(12, .int (1)), (15, .int (F (2 : Int32).toNatClampNeg)), (14, .int (F (1 : Int32).toNatClampNeg)), (13, .int (F (0 : Int32).toNatClampNeg)), (0, rf g (0)), (2, .int (he)), (9, .ref wq), (10, .int (mn))]) hx hb dL_areLoads_382 hl (by decide) rfl (fun ls hl => ?_)
                                  refine lv_aload_n hx hb dL_areLoads_384 rfl (lv_at hl 4 rfl) ?_
                                  refine lv_iload hx hb dL_areLoads_385 (lv_at hl 3 rfl) ?_
                                  refine lv_iconst (v := 2) hx hb dL_areLoads_387 (by decide) ?_
                                  obtain ⟨r2052, Mw2053, h2054, h⟩ := bind2 h
                                  refine cBackC C.2.2.2.2.2.2.2.2 (runVU (As := [.int (F (0 : Int32).toNatClampNeg), .int (2)]) (rest := []) C hW hS (c_X10_bell l g Mw2049 (F (0 : Int32).toNatClampNeg) 2 _ _ h2054) kV_X10_bell ml_L_26 (by decide) tm_BF rfl rfl rfl hl.1 rfl (Nat.le_of_ble_eq_true rfl) ⟨Nat.le_of_ble_eq_true rfl, Nat.le_of_ble_eq_true rfl⟩ ⟨Nat.le_of_ble_eq_true rfl, Nat.le_of_ble_eq_true rfl⟩ dL_areLoads_388) hS (fun v0 w0 H locs hp hW hS hq => ?_)
                                  obtain ⟨rfl, rfl⟩ := hp
                                  refine lv_istore (lv' := [(16, .int (r2052)), (12, .int (1)), (15, .int (F (2 : Int32).toNatClampNeg)), (14, .int (F (1 : Int32).toNatClampNeg)), (13, .int (F (0 : Int32).toNatClampNeg)), (0, rf g (0)), (2, .int (he)), (9, .ref wq), (10, .int (mn))]) hx hb dL_areLoads_391 hl (by decide) rfl (fun ls hl => ?_)
                                  refine lv_aload_n hx hb dL_areLoads_393 rfl (lv_at hl 5 rfl) ?_
                                  refine lv_iload hx hb dL_areLoads_394 (lv_at hl 3 rfl) ?_
                                  refine lv_iconst (v := 2) hx hb dL_areLoads_396 (by decide) ?_
                                  obtain ⟨r2055, Mw2056, h2057, h⟩ := bind2 h
                                  refine cBackC C.2.2.2.2.2.2.2.2 (runVU (As := [.int (F (1 : Int32).toNatClampNeg), .int (2)]) (rest := []) C hW hS (c_X10_bell l g Mw2053 (F (1 : Int32).toNatClampNeg) 2 _ _ h2057) kV_X10_bell ml_L_26 (by decide) tm_BF rfl rfl rfl hl.1 rfl (Nat.le_of_ble_eq_true rfl) ⟨Nat.le_of_ble_eq_true rfl, Nat.le_of_ble_eq_true rfl⟩ ⟨Nat.le_of_ble_eq_true rfl, Nat.le_of_ble_eq_true rfl⟩ dL_areLoads_397) hS (fun v0 w0 H locs hp hW hS hq => ?_)
                                  obtain ⟨rfl, rfl⟩ := hp
                                  refine lv_istore (lv' := [(17, .int (r2055)), (16, .int (r2052)), (12, .int (1)), (15, .int (F (2 : Int32).toNatClampNeg)), (14, .int (F (1 : Int32).toNatClampNeg)), (13, .int (F (0 : Int32).toNatClampNeg)), (0, rf g (0)), (2, .int (he)), (9, .ref wq), (10, .int (mn))]) hx hb dL_areLoads_400 hl (by decide) rfl (fun ls hl => ?_)
                                  refine lv_aload_n hx hb dL_areLoads_402 rfl (lv_at hl 6 rfl) ?_
                                  refine lv_iload hx hb dL_areLoads_403 (lv_at hl 3 rfl) ?_
                                  refine lv_iconst (v := 2) hx hb dL_areLoads_405 (by decide) ?_
                                  obtain ⟨r2058, Mw2059, h2060, h⟩ := bind2 h
                                  refine cBackC C.2.2.2.2.2.2.2.2 (runVU (As := [.int (F (2 : Int32).toNatClampNeg), .int (2)]) (rest := []) C hW hS (c_X10_bell l g Mw2056 (F (2 : Int32).toNatClampNeg) 2 _ _ h2060) kV_X10_bell ml_L_26 (by decide) tm_BF rfl rfl rfl hl.1 rfl (Nat.le_of_ble_eq_true rfl) ⟨Nat.le_of_ble_eq_true rfl, Nat.le_of_ble_eq_true rfl⟩ ⟨Nat.le_of_ble_eq_true rfl, Nat.le_of_ble_eq_true rfl⟩ dL_areLoads_406) hS (fun v0 w0 H locs hp hW hS hq => ?_)
                                  obtain ⟨rfl, rfl⟩ := hp
                                  refine lv_istore (lv' := [(18, .int (r2058)), (17, .int (r2055)), (16, .int (r2052)), (12, .int (1)), (15, .int (F (2 : Int32).toNatClampNeg)), (14, .int (F (1 : Int32).toNatClampNeg)), (13, .int (F (0 : Int32).toNatClampNeg)), (0, rf g (0)), (2, .int (he)), (9, .ref wq), (10, .int (mn))]) hx hb dL_areLoads_409 hl (by decide) rfl (fun ls hl => ?_)
                                  refine lv_iload hx hb dL_areLoads_411 (lv_at hl 2 rfl) ?_
                                  refine lv_iload hx hb dL_areLoads_413 (lv_at hl 1 rfl) ?_
                                  refine diaT (P := (r2052 : Int32) ≤ (r2055 : Int32)) (A := (r2055) - (r2052)) (B := (r2052) - (r2055)) (F := fun z9 => W p l e (RN 6 152 1 12) s m av below meth c H locs 1 12 (MQ below (QU g (fun v w0 => v = .int r ∧ M2 = w0)) av s 1 12 (AU g)) (F0 m 431 ls [.int z9])) (fun a9 b9 => lv_icmp_le (tgt := 426) hx hb dL_areLoads_415 (by decide) a9 b9) (fun k9 => ?_) (fun k9 => ?_) ?_
                                  · refine lv_iload hx hb dL_areLoads_426 (lv_at hl 1 rfl) ?_
                                    refine lv_iload hx hb dL_areLoads_428 (lv_at hl 2 rfl) ?_
                                    refine lv_isub hx hb dL_areLoads_430 ?_
                                    exact k9
                                  · refine lv_iload hx hb dL_areLoads_418 (lv_at hl 2 rfl) ?_
                                    refine lv_iload hx hb dL_areLoads_420 (lv_at hl 1 rfl) ?_
                                    refine lv_isub hx hb dL_areLoads_422 ?_
                                    refine lv_goto (tgt := 431) hx hb dL_areLoads_423 (by decide) ?_
                                    exact k9
                                  refine lv_topi (fun x2061 ex2061 => ?_)
                                  have ex2061 : x2061 = if (r2052 : Int32) ≤ (r2055 : Int32) then ((r2055) - (r2052) : Int32) else ((r2052) - (r2055) : Int32) := ex2061
                                  have h := letEJ h
                                  try rw [← ex2061] at h
                                  refine lv_istore (lv' := [(19, .int (x2061)), (18, .int (r2058)), (17, .int (r2055)), (16, .int (r2052)), (12, .int (1)), (15, .int (F (2 : Int32).toNatClampNeg)), (14, .int (F (1 : Int32).toNatClampNeg)), (13, .int (F (0 : Int32).toNatClampNeg)), (0, rf g (0)), (2, .int (he)), (9, .ref wq), (10, .int (mn))]) hx hb dL_areLoads_431 hl (by decide) rfl (fun ls hl => ?_)
                                  refine lv_iload hx hb dL_areLoads_433 (lv_at hl 3 rfl) ?_
                                  refine lv_iload hx hb dL_areLoads_435 (lv_at hl 2 rfl) ?_
                                  refine lv_iadd hx hb dL_areLoads_437 ?_
                                  refine lv_iload hx hb dL_areLoads_438 (lv_at hl 1 rfl) ?_
                                  refine diaT (P := ((r2052) + (r2055) : Int32) ≤ (r2058 : Int32)) (A := ((r2058) - (r2052)) - (r2055)) (B := ((r2052) + (r2055)) - (r2058)) (F := fun z9 => W p l e (RN 6 152 1 12) s m av below meth c H locs 1 12 (MQ below (QU g (fun v w0 => v = .int r ∧ M2 = w0)) av s 1 12 (AU g)) (F0 m 462 ls [.int z9])) (fun a9 b9 => lv_icmp_le (tgt := 454) hx hb dL_areLoads_440 (by decide) a9 b9) (fun k9 => ?_) (fun k9 => ?_) ?_
                                  · refine lv_iload hx hb dL_areLoads_454 (lv_at hl 1 rfl) ?_
                                    refine lv_iload hx hb dL_areLoads_456 (lv_at hl 3 rfl) ?_
                                    refine lv_isub hx hb dL_areLoads_458 ?_
                                    refine lv_iload hx hb dL_areLoads_459 (lv_at hl 2 rfl) ?_
                                    refine lv_isub hx hb dL_areLoads_461 ?_
                                    exact k9
                                  · refine lv_iload hx hb dL_areLoads_443 (lv_at hl 3 rfl) ?_
                                    refine lv_iload hx hb dL_areLoads_445 (lv_at hl 2 rfl) ?_
                                    refine lv_iadd hx hb dL_areLoads_447 ?_
                                    refine lv_iload hx hb dL_areLoads_448 (lv_at hl 1 rfl) ?_
                                    refine lv_isub hx hb dL_areLoads_450 ?_
                                    refine lv_goto (tgt := 462) hx hb dL_areLoads_451 (by decide) ?_
                                    exact k9
                                  refine lv_topi (fun x2062 ex2062 => ?_)
                                  have ex2062 : x2062 = if ((r2052) + (r2055) : Int32) ≤ (r2058 : Int32) then (((r2058) - (r2052)) - (r2055) : Int32) else (((r2052) + (r2055)) - (r2058) : Int32) := ex2062
                                  have h := letEJ h
                                  try rw [← ex2062] at h
                                  refine lv_istore (lv' := [(20, .int (x2062)), (19, .int (x2061)), (18, .int (r2058)), (17, .int (r2055)), (16, .int (r2052)), (12, .int (1)), (15, .int (F (2 : Int32).toNatClampNeg)), (14, .int (F (1 : Int32).toNatClampNeg)), (13, .int (F (0 : Int32).toNatClampNeg)), (0, rf g (0)), (2, .int (he)), (9, .ref wq), (10, .int (mn))]) hx hb dL_areLoads_462 hl (by decide) rfl (fun ls hl => ?_)
                                  refine lv_iload hx hb dL_areLoads_464 (lv_at hl 5 rfl) ?_
                                  refine lv_if_eq (tgt := 612) hx hb dL_areLoads_466 (by decide) (fun c2063 => ?_) (fun c2063 => ?_)
                                  · rw [if_pos c2063] at h
                                    cases h
                                  · rw [if_neg c2063] at h
                                    refine lv_aload_n hx hb dL_areLoads_469 rfl (lv_at hl 9 rfl) ?_
                                    refine lv_iconst (v := 0) hx hb dL_areLoads_470 (by decide) ?_
                                    obtain ⟨r2064, Mw2065, h2066, h⟩ := bind2 h
                                    refine cBackC C.2.2.2.2.2.2.2.2 (runVU (As := [.int (0)]) (rest := []) C hW hS (c_X10_fault l g Mw2059 0 _ _ h2066) kV_X10_fault ml_L_84 (by decide) tm_BF rfl rfl rfl hl.1 rfl (Nat.le_of_ble_eq_true rfl) ⟨Nat.le_of_ble_eq_true rfl, Nat.le_of_ble_eq_true rfl⟩ ⟨Nat.le_of_ble_eq_true rfl, Nat.le_of_ble_eq_true rfl⟩ dL_areLoads_471) hS (fun v0 w0 H locs hp hW hS hq => ?_)
                                    obtain ⟨rfl, rfl⟩ := hp
                                    refine lv_bipush (v := -4) hx hb dL_areLoads_474 (by decide) ?_
                                    refine lv_icmp_ne (tgt := 612) hx hb dL_areLoads_476 (by decide) (fun c2067 => ?_) (fun c2067 => ?_)
                                    · rw [if_neg c2067] at h
                                      refine lv_iconst (v := 0) hx hb dL_areLoads_612 (by decide) ?_
                                      cases h
                                    · rw [if_pos c2067] at h
                                      refine lv_aload_n hx hb dL_areLoads_479 rfl (lv_at hl 9 rfl) ?_
                                      refine lv_iconst (v := 0) hx hb dL_areLoads_480 (by decide) ?_
                                      obtain ⟨r2068, Mw2069, h2070, h⟩ := bind2 h
                                      refine cBackC C.2.2.2.2.2.2.2.2 (runVU (As := [.int (0)]) (rest := []) C hW hS (c_X10_frame l g Mw2065 0 _ _ h2070) kV_X10_frame ml_L_81 (by decide) tm_BF rfl rfl rfl hl.1 rfl (Nat.le_of_ble_eq_true rfl) ⟨Nat.le_of_ble_eq_true rfl, Nat.le_of_ble_eq_true rfl⟩ ⟨Nat.le_of_ble_eq_true rfl, Nat.le_of_ble_eq_true rfl⟩ dL_areLoads_481) hS (fun v0 w0 H locs hp hW hS hq => ?_)
                                      obtain ⟨rfl, rfl⟩ := hp
                                      refine lv_iload hx hb dL_areLoads_484 (lv_at hl 4 rfl) ?_
                                      refine lv_iload hx hb dL_areLoads_486 (lv_at hl 3 rfl) ?_
                                      refine lv_iadd hx hb dL_areLoads_488 ?_
                                      refine lv_iload hx hb dL_areLoads_489 (lv_at hl 2 rfl) ?_
                                      refine lv_iadd hx hb dL_areLoads_491 ?_
                                      refine lv_icmp_ne (tgt := 612) hx hb dL_areLoads_492 (by decide) (fun c2071 => ?_) (fun c2071 => ?_)
                                      · rw [if_neg c2071] at h
                                        refine lv_iconst (v := 0) hx hb dL_areLoads_612 (by decide) ?_
                                        cases h
                                      · rw [if_pos c2071] at h
                                        refine lv_aload_n hx hb dL_areLoads_495 rfl (lv_at hl 9 rfl) ?_
                                        refine lv_iconst (v := 1) hx hb dL_areLoads_496 (by decide) ?_
                                        obtain ⟨r2072, Mw2073, h2074, h⟩ := bind2 h
                                        refine cBackC C.2.2.2.2.2.2.2.2 (runVU (As := [.int (1)]) (rest := []) C hW hS (c_X10_frame l g Mw2069 1 _ _ h2074) kV_X10_frame ml_L_81 (by decide) tm_BF rfl rfl rfl hl.1 rfl (Nat.le_of_ble_eq_true rfl) ⟨Nat.le_of_ble_eq_true rfl, Nat.le_of_ble_eq_true rfl⟩ ⟨Nat.le_of_ble_eq_true rfl, Nat.le_of_ble_eq_true rfl⟩ dL_areLoads_497) hS (fun v0 w0 H locs hp hW hS hq => ?_)
                                        obtain ⟨rfl, rfl⟩ := hp
                                        refine lv_iconst (v := 3) hx hb dL_areLoads_500 (by decide) ?_
                                        refine lv_icmp_ne (tgt := 612) hx hb dL_areLoads_501 (by decide) (fun c2075 => ?_) (fun c2075 => ?_)
                                        · rw [if_neg c2075] at h
                                          refine lv_iconst (v := 0) hx hb dL_areLoads_612 (by decide) ?_
                                          cases h
                                        · rw [if_pos c2075] at h
                                          refine lv_aload_n hx hb dL_areLoads_504 rfl (lv_at hl 9 rfl) ?_
                                          refine lv_iconst (v := 2) hx hb dL_areLoads_505 (by decide) ?_
                                          obtain ⟨r2076, Mw2077, h2078, h⟩ := bind2 h
                                          refine cBackC C.2.2.2.2.2.2.2.2 (runVU (As := [.int (2)]) (rest := []) C hW hS (c_X10_frame l g Mw2073 2 _ _ h2078) kV_X10_frame ml_L_81 (by decide) tm_BF rfl rfl rfl hl.1 rfl (Nat.le_of_ble_eq_true rfl) ⟨Nat.le_of_ble_eq_true rfl, Nat.le_of_ble_eq_true rfl⟩ ⟨Nat.le_of_ble_eq_true rfl, Nat.le_of_ble_eq_true rfl⟩ dL_areLoads_506) hS (fun v0 w0 H locs hp hW hS hq => ?_)
                                          obtain ⟨rfl, rfl⟩ := hp
                                          refine lv_iconst (v := 2) hx hb dL_areLoads_509 (by decide) ?_
                                          refine lv_icmp_ne (tgt := 612) hx hb dL_areLoads_510 (by decide) (fun c2079 => ?_) (fun c2079 => ?_)
                                          · rw [if_neg c2079] at h
                                            refine lv_iconst (v := 0) hx hb dL_areLoads_612 (by decide) ?_
                                            cases h
                                          · rw [if_pos c2079] at h
                                            refine lv_aload_n hx hb dL_areLoads_513 rfl (lv_at hl 9 rfl) ?_
                                            refine lv_iconst (v := 3) hx hb dL_areLoads_514 (by decide) ?_
                                            obtain ⟨r2080, Mw2081, h2082, h⟩ := bind2 h
                                            refine cBackC C.2.2.2.2.2.2.2.2 (runVU (As := [.int (3)]) (rest := []) C hW hS (c_X10_frame l g Mw2077 3 _ _ h2082) kV_X10_frame ml_L_81 (by decide) tm_BF rfl rfl rfl hl.1 rfl (Nat.le_of_ble_eq_true rfl) ⟨Nat.le_of_ble_eq_true rfl, Nat.le_of_ble_eq_true rfl⟩ ⟨Nat.le_of_ble_eq_true rfl, Nat.le_of_ble_eq_true rfl⟩ dL_areLoads_515) hS (fun v0 w0 H locs hp hW hS hq => ?_)
                                            obtain ⟨rfl, rfl⟩ := hp
                                            refine lv_iconst (v := 2) hx hb dL_areLoads_518 (by decide) ?_
                                            refine lv_icmp_ne (tgt := 612) hx hb dL_areLoads_519 (by decide) (fun c2083 => ?_) (fun c2083 => ?_)
                                            · rw [if_neg c2083] at h
                                              refine lv_iconst (v := 0) hx hb dL_areLoads_612 (by decide) ?_
                                              cases h
                                            · rw [if_pos c2083] at h
                                              refine lv_aload_n hx hb dL_areLoads_522 rfl (lv_at hl 9 rfl) ?_
                                              refine lv_iconst (v := 4) hx hb dL_areLoads_523 (by decide) ?_
                                              obtain ⟨r2084, Mw2085, h2086, h⟩ := bind2 h
                                              refine cBackC C.2.2.2.2.2.2.2.2 (runVU (As := [.int (4)]) (rest := []) C hW hS (c_X10_frame l g Mw2081 4 _ _ h2086) kV_X10_frame ml_L_81 (by decide) tm_BF rfl rfl rfl hl.1 rfl (Nat.le_of_ble_eq_true rfl) ⟨Nat.le_of_ble_eq_true rfl, Nat.le_of_ble_eq_true rfl⟩ ⟨Nat.le_of_ble_eq_true rfl, Nat.le_of_ble_eq_true rfl⟩ dL_areLoads_524) hS (fun v0 w0 H locs hp hW hS hq => ?_)
                                              obtain ⟨rfl, rfl⟩ := hp
                                              refine lv_iload hx hb dL_areLoads_527 (lv_at hl 1 rfl) ?_
                                              refine lv_iload hx hb dL_areLoads_529 (lv_at hl 0 rfl) ?_
                                              refine diaT (P := (x2061 : Int32) ≤ (x2062 : Int32)) (A := x2062) (B := x2061) (F := fun z9 => W p l e (RN 6 152 1 12) s m av below meth c H locs 1 12 (MQ below (QU g (fun v w0 => v = .int r ∧ M2 = w0)) av s 1 12 (AU g)) (F0 m 541 ls [.int z9, .int (r2084)])) (fun a9 b9 => lv_icmp_le (tgt := 539) hx hb dL_areLoads_531 (by decide) a9 b9) (fun k9 => ?_) (fun k9 => ?_) ?_
                                              · refine lv_iload hx hb dL_areLoads_539 (lv_at hl 0 rfl) ?_
                                                exact k9
                                              · refine lv_iload hx hb dL_areLoads_534 (lv_at hl 1 rfl) ?_
                                                refine lv_goto (tgt := 541) hx hb dL_areLoads_536 (by decide) ?_
                                                exact k9
                                              refine lv_icmp_ne (tgt := 612) hx hb dL_areLoads_541 (by decide) (fun c2087 => ?_) (fun c2087 => ?_)
                                              · rw [if_neg c2087] at h
                                                refine lv_iconst (v := 0) hx hb dL_areLoads_612 (by decide) ?_
                                                cases h
                                              · rw [if_pos c2087] at h
                                                refine lv_aload_n hx hb dL_areLoads_544 rfl (lv_at hl 9 rfl) ?_
                                                refine lv_iconst (v := 0) hx hb dL_areLoads_545 (by decide) ?_
                                                obtain ⟨r2088, Mw2089, h2090, h⟩ := bind2 h
                                                refine cBackC C.2.2.2.2.2.2.2.2 (runVU (As := [.int (0)]) (rest := []) C hW hS (c_X10_frame l g Mw2085 0 _ _ h2090) kV_X10_frame ml_L_81 (by decide) tm_BF rfl rfl rfl hl.1 rfl (Nat.le_of_ble_eq_true rfl) ⟨Nat.le_of_ble_eq_true rfl, Nat.le_of_ble_eq_true rfl⟩ ⟨Nat.le_of_ble_eq_true rfl, Nat.le_of_ble_eq_true rfl⟩ dL_areLoads_546) hS (fun v0 w0 H locs hp hW hS hq => ?_)
                                                obtain ⟨rfl, rfl⟩ := hp
                                                refine lv_aload_n hx hb dL_areLoads_549 rfl (lv_at hl 9 rfl) ?_
                                                refine lv_iconst (v := 5) hx hb dL_areLoads_550 (by decide) ?_
                                                obtain ⟨r2091, Mw2092, h2093, h⟩ := bind2 h
                                                refine cBackC C.2.2.2.2.2.2.2.2 (runVU (As := [.int (5)]) (rest := [.int (r2088)]) C hW hS (c_X10_frame l g Mw2089 5 _ _ h2093) kV_X10_frame ml_L_81 (by decide) tm_BF rfl rfl rfl hl.1 rfl (Nat.le_of_ble_eq_true rfl) ⟨Nat.le_of_ble_eq_true rfl, Nat.le_of_ble_eq_true rfl⟩ ⟨Nat.le_of_ble_eq_true rfl, Nat.le_of_ble_eq_true rfl⟩ dL_areLoads_551) hS (fun v0 w0 H locs hp hW hS hq => ?_)
                                                obtain ⟨rfl, rfl⟩ := hp
                                                refine lv_iadd hx hb dL_areLoads_554 ?_
                                                refine lv_iconst (v := 4) hx hb dL_areLoads_555 (by decide) ?_
                                                refine lv_irem hx hb dL_areLoads_556 (by decide) ?_
                                                refine lv_if_ne (tgt := 612) hx hb dL_areLoads_557 (by decide) (fun c2095 => ?_) (fun c2095 => ?_)
                                                · rw [if_neg c2095] at h
                                                  refine lv_iconst (v := 0) hx hb dL_areLoads_612 (by decide) ?_
                                                  cases h
                                                · rw [if_pos c2095] at h
                                                  refine lv_aload_n hx hb dL_areLoads_560 rfl (lv_at hl 9 rfl) ?_
                                                  refine lv_iconst (v := 0) hx hb dL_areLoads_561 (by decide) ?_
                                                  obtain ⟨r2096, Mw2097, h2098, h⟩ := bind2 h
                                                  refine cBackC C.2.2.2.2.2.2.2.2 (runVU (As := [.int (0)]) (rest := []) C hW hS (c_X10_frame l g Mw2092 0 _ _ h2098) kV_X10_frame ml_L_81 (by decide) tm_BF rfl rfl rfl hl.1 rfl (Nat.le_of_ble_eq_true rfl) ⟨Nat.le_of_ble_eq_true rfl, Nat.le_of_ble_eq_true rfl⟩ ⟨Nat.le_of_ble_eq_true rfl, Nat.le_of_ble_eq_true rfl⟩ dL_areLoads_562) hS (fun v0 w0 H locs hp hW hS hq => ?_)
                                                  obtain ⟨rfl, rfl⟩ := hp
                                                  refine lv_aload_n hx hb dL_areLoads_565 rfl (lv_at hl 9 rfl) ?_
                                                  refine lv_iconst (v := 5) hx hb dL_areLoads_566 (by decide) ?_
                                                  obtain ⟨r2099, Mw2100, h2101, h⟩ := bind2 h
                                                  refine cBackC C.2.2.2.2.2.2.2.2 (runVU (As := [.int (5)]) (rest := [.int (r2096)]) C hW hS (c_X10_frame l g Mw2097 5 _ _ h2101) kV_X10_frame ml_L_81 (by decide) tm_BF rfl rfl rfl hl.1 rfl (Nat.le_of_ble_eq_true rfl) ⟨Nat.le_of_ble_eq_true rfl, Nat.le_of_ble_eq_true rfl⟩ ⟨Nat.le_of_ble_eq_true rfl, Nat.le_of_ble_eq_true rfl⟩ dL_areLoads_567) hS (fun v0 w0 H locs hp hW hS hq => ?_)
                                                  obtain ⟨rfl, rfl⟩ := hp
                                                  refine lv_iadd hx hb dL_areLoads_570 ?_
                                                  refine lv_iconst (v := 2) hx hb dL_areLoads_571 (by decide) ?_
                                                  refine lv_iload hx hb dL_areLoads_572 (lv_at hl 2 rfl) ?_
                                                  refine lv_imul hx hb dL_areLoads_574 ?_
                                                  refine lv_icmp_lt (tgt := 612) hx hb dL_areLoads_575 (by decide) (fun c2102 => ?_) (fun c2102 => ?_)
                                                  · rw [if_pos c2102] at h
                                                    refine lv_iconst (v := 0) hx hb dL_areLoads_612 (by decide) ?_
                                                    cases h
                                                  · rw [if_neg c2102] at h
                                                    refine lv_aload_n hx hb dL_areLoads_578 rfl (lv_at hl 9 rfl) ?_
                                                    refine lv_iconst (v := 0) hx hb dL_areLoads_579 (by decide) ?_
                                                    obtain ⟨r2103, Mw2104, h2105, h⟩ := bind2 h
                                                    refine cBackC C.2.2.2.2.2.2.2.2 (runVU (As := [.int (0)]) (rest := []) C hW hS (c_X10_frame l g Mw2100 0 _ _ h2105) kV_X10_frame ml_L_81 (by decide) tm_BF rfl rfl rfl hl.1 rfl (Nat.le_of_ble_eq_true rfl) ⟨Nat.le_of_ble_eq_true rfl, Nat.le_of_ble_eq_true rfl⟩ ⟨Nat.le_of_ble_eq_true rfl, Nat.le_of_ble_eq_true rfl⟩ dL_areLoads_580) hS (fun v0 w0 H locs hp hW hS hq => ?_)
                                                    obtain ⟨rfl, rfl⟩ := hp
                                                    refine lv_aload_n hx hb dL_areLoads_583 rfl (lv_at hl 9 rfl) ?_
                                                    refine lv_iconst (v := 5) hx hb dL_areLoads_584 (by decide) ?_
                                                    obtain ⟨r2106, Mw2107, h2108, h⟩ := bind2 h
                                                    refine cBackC C.2.2.2.2.2.2.2.2 (runVU (As := [.int (5)]) (rest := [.int (r2103)]) C hW hS (c_X10_frame l g Mw2104 5 _ _ h2108) kV_X10_frame ml_L_81 (by decide) tm_BF rfl rfl rfl hl.1 rfl (Nat.le_of_ble_eq_true rfl) ⟨Nat.le_of_ble_eq_true rfl, Nat.le_of_ble_eq_true rfl⟩ ⟨Nat.le_of_ble_eq_true rfl, Nat.le_of_ble_eq_true rfl⟩ dL_areLoads_585) hS (fun v0 w0 H locs hp hW hS hq => ?_)
                                                    obtain ⟨rfl, rfl⟩ := hp
                                                    refine lv_iadd hx hb dL_areLoads_588 ?_
                                                    refine lv_iconst (v := 4) hx hb dL_areLoads_589 (by decide) ?_
                                                    refine lv_iload hx hb dL_areLoads_590 (lv_at hl 4 rfl) ?_
                                                    refine lv_iload hx hb dL_areLoads_592 (lv_at hl 3 rfl) ?_
                                                    refine diaT (P := (r2052 : Int32) ≤ (r2055 : Int32)) (A := r2055) (B := r2052) (F := fun z9 => W p l e (RN 6 152 1 12) s m av below meth c H locs 1 12 (MQ below (QU g (fun v w0 => v = .int r ∧ M2 = w0)) av s 1 12 (AU g)) (F0 m 604 ls [.int z9, .int (4), .int ((r2103) + (r2106))])) (fun a9 b9 => lv_icmp_le (tgt := 602) hx hb dL_areLoads_594 (by decide) a9 b9) (fun k9 => ?_) (fun k9 => ?_) ?_
                                                    · refine lv_iload hx hb dL_areLoads_602 (lv_at hl 3 rfl) ?_
                                                      exact k9
                                                    · refine lv_iload hx hb dL_areLoads_597 (lv_at hl 4 rfl) ?_
                                                      refine lv_goto (tgt := 604) hx hb dL_areLoads_599 (by decide) ?_
                                                      exact k9
                                                    refine lv_imul hx hb dL_areLoads_604 ?_
                                                    refine lv_icmp_lt (tgt := 612) hx hb dL_areLoads_605 (by decide) (fun c2109 => ?_) (fun c2109 => ?_)
                                                    · rw [if_pos c2109] at h
                                                      refine lv_iconst (v := 0) hx hb dL_areLoads_612 (by decide) ?_
                                                      cases h
                                                    · rw [if_neg c2109] at h
                                                      refine lv_iconst (v := 1) hx hb dL_areLoads_608 (by decide) ?_
                                                      refine lv_goto (tgt := 613) hx hb dL_areLoads_609 (by decide) ?_
                                                      refine lv_istore (lv' := [(12, .int (1)), (20, .int (x2062)), (19, .int (x2061)), (18, .int (r2058)), (17, .int (r2055)), (16, .int (r2052)), (15, .int (F (2 : Int32).toNatClampNeg)), (14, .int (F (1 : Int32).toNatClampNeg)), (13, .int (F (0 : Int32).toNatClampNeg)), (0, rf g (0)), (2, .int (he)), (9, .ref wq), (10, .int (mn))]) hx hb dL_areLoads_613 hl (by decide) rfl (fun ls hl => ?_)
                                                      refine lv_iload hx hb dL_areLoads_615 (lv_at hl 0 rfl) ?_
                                                      refine lv_if_eq (tgt := 665) hx hb dL_areLoads_617 (by decide) (fun c2110 => ?_) (fun c2110 => ?_)
                                                      · rw [if_pos c2110] at h
                                                        cases h
                                                      · rw [if_neg c2110] at h
                                                        refine lv_aload_n hx hb dL_areLoads_620 rfl (lv_at hl 9 rfl) ?_
                                                        refine lv_bipush (v := 44) hx hb dL_areLoads_621 (by decide) ?_
                                                        obtain ⟨r2111, Mw2112, h2113, h⟩ := bind2 h
                                                        refine cBackC C.2.2.2.2.2.2.2.2 (runVU (As := [.int (44)]) (rest := []) C hW hS (c_X10_type l g Mw2107 44 _ _ h2113) kV_X10_type ml_L_106 (by decide) tm_BF rfl rfl rfl hl.1 rfl (Nat.le_of_ble_eq_true rfl) ⟨Nat.le_of_ble_eq_true rfl, Nat.le_of_ble_eq_true rfl⟩ ⟨Nat.le_of_ble_eq_true rfl, Nat.le_of_ble_eq_true rfl⟩ dL_areLoads_623) hS (fun v0 w0 H locs hp hW hS hq => ?_)
                                                        obtain ⟨rfl, rfl⟩ := hp
                                                        refine lv_if_le (tgt := 665) hx hb dL_areLoads_626 (by decide) (fun c2114 => ?_) (fun c2114 => ?_)
                                                        · rw [if_pos c2114] at h
                                                          refine lv_iconst (v := 0) hx hb dL_areLoads_665 (by decide) ?_
                                                          cases h
                                                        · rw [if_neg c2114] at h
                                                          refine lv_aload_n hx hb dL_areLoads_629 rfl (lv_at hl 9 rfl) ?_
                                                          refine lv_iconst (v := 1) hx hb dL_areLoads_630 (by decide) ?_
                                                          obtain ⟨r2115, Mw2116, h2117, h⟩ := bind2 h
                                                          refine cBackC C.2.2.2.2.2.2.2.2 (runVU (As := [.int (1)]) (rest := []) C hW hS (c_X10_fault l g Mw2112 1 _ _ h2117) kV_X10_fault ml_L_84 (by decide) tm_BF rfl rfl rfl hl.1 rfl (Nat.le_of_ble_eq_true rfl) ⟨Nat.le_of_ble_eq_true rfl, Nat.le_of_ble_eq_true rfl⟩ ⟨Nat.le_of_ble_eq_true rfl, Nat.le_of_ble_eq_true rfl⟩ dL_areLoads_631) hS (fun v0 w0 H locs hp hW hS hq => ?_)
                                                          obtain ⟨rfl, rfl⟩ := hp
                                                          refine lv_iconst (v := 1) hx hb dL_areLoads_634 (by decide) ?_
                                                          refine lv_icmp_ne (tgt := 665) hx hb dL_areLoads_635 (by decide) (fun c2118 => ?_) (fun c2118 => ?_)
                                                          · rw [if_neg c2118] at h
                                                            refine lv_iconst (v := 0) hx hb dL_areLoads_665 (by decide) ?_
                                                            cases h
                                                          · rw [if_pos c2118] at h
                                                            refine lv_aload_n hx hb dL_areLoads_638 rfl (lv_at hl 9 rfl) ?_
                                                            refine lv_iconst (v := 0) hx hb dL_areLoads_639 (by decide) ?_
                                                            obtain ⟨r2119, Mw2120, h2121, h⟩ := bind2 h
                                                            refine cBackC C.2.2.2.2.2.2.2.2 (runVU (As := [.int (0)]) (rest := []) C hW hS (c_X10_fault l g Mw2116 0 _ _ h2121) kV_X10_fault ml_L_84 (by decide) tm_BF rfl rfl rfl hl.1 rfl (Nat.le_of_ble_eq_true rfl) ⟨Nat.le_of_ble_eq_true rfl, Nat.le_of_ble_eq_true rfl⟩ ⟨Nat.le_of_ble_eq_true rfl, Nat.le_of_ble_eq_true rfl⟩ dL_areLoads_640) hS (fun v0 w0 H locs hp hW hS hq => ?_)
                                                            obtain ⟨rfl, rfl⟩ := hp
                                                            refine lv_aload_n hx hb dL_areLoads_643 rfl (lv_at hl 9 rfl) ?_
                                                            refine lv_bipush (v := 9) hx hb dL_areLoads_644 (by decide) ?_
                                                            obtain ⟨r2122, Mw2123, h2124, h⟩ := bind2 h
                                                            refine cBackC C.2.2.2.2.2.2.2.2 (runVU (As := [.int (9)]) (rest := [.int (r2119)]) C hW hS (c_X10_count l g Mw2120 9 _ _ h2124) kV_X10_count ml_L_13 (by decide) tm_BF rfl rfl rfl hl.1 rfl (Nat.le_of_ble_eq_true rfl) ⟨Nat.le_of_ble_eq_true rfl, Nat.le_of_ble_eq_true rfl⟩ ⟨Nat.le_of_ble_eq_true rfl, Nat.le_of_ble_eq_true rfl⟩ dL_areLoads_646) hS (fun v0 w0 H locs hp hW hS hq => ?_)
                                                            obtain ⟨rfl, rfl⟩ := hp
                                                            refine lv_iconst (v := 1) hx hb dL_areLoads_649 (by decide) ?_
                                                            refine lv_isub hx hb dL_areLoads_650 ?_
                                                            refine lv_icmp_ne (tgt := 665) hx hb dL_areLoads_651 (by decide) (fun c2125 => ?_) (fun c2125 => ?_)
                                                            · rw [if_neg c2125] at h
                                                              refine lv_iconst (v := 0) hx hb dL_areLoads_665 (by decide) ?_
                                                              cases h
                                                            · rw [if_pos c2125] at h
                                                              refine lv_aload_n hx hb dL_areLoads_654 rfl (lv_at hl 9 rfl) ?_
                                                              obtain ⟨r2126, Mw2127, h2128, h⟩ := bind2 h
                                                              refine cBackC C.2.2.2.2.2.2.2.2 (runVU (As := []) (rest := []) C hW hS (c_X10_clearText l g Mw2123  _ _ h2128) kV_X10_clearText ml_L_103 (by decide) tm_BF rfl rfl rfl hl.1 rfl (Nat.le_of_ble_eq_true rfl) ⟨Nat.le_of_ble_eq_true rfl, Nat.le_of_ble_eq_true rfl⟩ ⟨Nat.le_of_ble_eq_true rfl, Nat.le_of_ble_eq_true rfl⟩ dL_areLoads_655) hS (fun v0 w0 H locs hp hW hS hq => ?_)
                                                              obtain ⟨rfl, rfl⟩ := hp
                                                              refine lv_if_le (tgt := 665) hx hb dL_areLoads_658 (by decide) (fun c2129 => ?_) (fun c2129 => ?_)
                                                              · rw [if_pos c2129] at h
                                                                refine lv_iconst (v := 0) hx hb dL_areLoads_665 (by decide) ?_
                                                                cases h
                                                              · rw [if_neg c2129] at h
                                                                refine lv_iconst (v := 1) hx hb dL_areLoads_661 (by decide) ?_
                                                                refine lv_goto (tgt := 666) hx hb dL_areLoads_662 (by decide) ?_
                                                                cases h
                                                                exact rZU C hr hlk dL_areLoads_666 hW hS rfl ⟨rfl, rfl⟩
          · rw [if_neg c2010] at h
            refine lv_iload hx hb dL_areLoads_261 (lv_at hl 0 rfl) ?_
            cases h
            exact rZU C hr hlk dL_areLoads_263 hW hS rfl ⟨rfl, rfl⟩
set_option maxHeartbeats 4000000 in
set_option maxRecDepth 100000 in
theorem t_L_areLoads_57 (l : Launch) (g : GD)  {p : Program} {e : Env} {s : State} {m : MethodId} {av : Array Value} {below : List Frame} {meth : Method} {c : Code} {wq : Nat} (n : Nat) : ∀ (M : MM) (F : Nat → Int32) (he : Int32) (se : Int32) (lo : Int32) (su : Int32) (nn : Int32) (ta : Int32) (li : Int32) (mn : Int32) (z : Int32) (r : Int32) (M2 : MM), lp_L_areLoads_57 n M F he se lo su nn ta li mn z = some (r, M2) → CX p s m av c cL_areLoads 21 RL g → meth.sig.returnType = (some .boolean) → meth.locks = false → ∀ (H : Heap) (locs : List Loc), Wd g M H → sU g s H locs → YW g s wq F H → ∀ ls : Array Slot, lv_has ls 21 [(0, rf g (0)), (2, .int (he)), (3, .int (se)), (4, .int (lo)), (5, .int (su)), (6, .int (nn)), (7, .int (ta)), (8, .int (li)), (9, .ref wq), (10, .int (mn)), (11, .int (z))] → W p l e (RN 6 152 1 12) s m av below meth c H locs 1 12 (MQ below (QU g (fun v w0 => v = .int r ∧ M2 = w0)) av s 1 12 (AU g)) (F0 m 57 ls []) := by
  induction n with
  | zero => intro M F he se lo su nn ta li mn z r M2 h; cases h
  | succ n ih0 =>
    intro M F he se lo su nn ta li mn z r M2 h C hr hlk H locs hW hS hY ls hl
    have ih : ∀ (M : MM) (F : Nat → Int32) (he : Int32) (se : Int32) (lo : Int32) (su : Int32) (nn : Int32) (ta : Int32) (li : Int32) (mn : Int32) (z : Int32), lp_L_areLoads_57 n M F he se lo su nn ta li mn z = some (r, M2) → ∀ (H : Heap) (locs : List Loc), Wd g M H → sU g s H locs → YW g s wq F H → ∀ ls : Array Slot, lv_has ls 21 [(0, rf g (0)), (2, .int (he)), (3, .int (se)), (4, .int (lo)), (5, .int (su)), (6, .int (nn)), (7, .int (ta)), (8, .int (li)), (9, .ref wq), (10, .int (mn)), (11, .int (z))] → W p l e (RN 6 152 1 12) s m av below meth c H locs 1 12 (MQ below (QU g (fun v w0 => v = .int r ∧ M2 = w0)) av s 1 12 (AU g)) (F0 m 57 ls []) := fun M F he se lo su nn ta li mn z h H locs hW hS hY ls hl => ih0 M F he se lo su nn ta li mn z r M2 h C hr hlk H locs hW hS hY ls hl
    unfold lp_L_areLoads_57 at h
    try dsimp only at h
    have hx := C.1
    have hb := C.2.1
    have hts := C.2.2.2.2.1
    refine lv_iload hx hb dL_areLoads_57 (lv_at hl 10 rfl) ?_
    refine lv_aload_n hx hb dL_areLoads_59 rfl (lv_at hl 0 rfl) ?_
    refine lv_iconst (v := 1) hx hb dL_areLoads_60 (by decide) ?_
    obtain ⟨r1001, Mw1002, h1003, h⟩ := bind2 h
    refine cBackC C.2.2.2.2.2.2.2.2 (runVU (As := [.int (1)]) (rest := [.int (z)]) C hW hS (c_X10_count l g M 1 _ _ h1003) kV_X10_count ml_L_13 (by decide) tm_BF rfl rfl rfl hl.1 rfl (Nat.le_of_ble_eq_true rfl) ⟨Nat.le_of_ble_eq_true rfl, Nat.le_of_ble_eq_true rfl⟩ ⟨Nat.le_of_ble_eq_true rfl, Nat.le_of_ble_eq_true rfl⟩ dL_areLoads_61) hS (fun v0 w0 H locs hp hW hS hq => ?_)
    obtain ⟨rfl, rfl⟩ := hp
    have hY := hY.kept hq
    refine lv_icmp_ge (tgt := 147) hx hb dL_areLoads_64 (by decide) (fun c1004 => ?_) (fun c1004 => ?_)
    · rw [if_pos c1004] at h
      refine lv_aload_n hx hb dL_areLoads_147 rfl (lv_at hl 0 rfl) ?_
      refine lv_iload_n hx hb dL_areLoads_148 rfl (lv_at hl 2 rfl) ?_
      obtain ⟨r1005, Mw1006, h1007, h⟩ := bind2 h
      refine cBackC C.2.2.2.2.2.2.2.2 (runVU (As := [.int (se)]) (rest := []) C hW hS (c_X10_wagons l g Mw1002 se _ _ h1007) kV_X10_wagons ml_L_78 (by decide) tm_BF rfl rfl rfl hl.1 rfl (Nat.le_of_ble_eq_true rfl) ⟨Nat.le_of_ble_eq_true rfl, Nat.le_of_ble_eq_true rfl⟩ ⟨Nat.le_of_ble_eq_true rfl, Nat.le_of_ble_eq_true rfl⟩ dL_areLoads_149) hS (fun v0 w0 H locs hp hW hS hq => ?_)
      obtain ⟨rfl, rfl⟩ := hp
      have hY := hY.kept hq
      refine lv_istore (lv' := [(11, .int (r1005)), (0, rf g (0)), (2, .int (he)), (3, .int (se)), (4, .int (lo)), (5, .int (su)), (6, .int (nn)), (7, .int (ta)), (8, .int (li)), (9, .ref wq), (10, .int (mn))]) hx hb dL_areLoads_152 hl (by decide) rfl (fun ls hl => ?_)
      refine lv_iload hx hb dL_areLoads_154 (lv_at hl 8 rfl) ?_
      refine lv_if_eq (tgt := 211) hx hb dL_areLoads_156 (by decide) (fun c1008 => ?_) (fun c1008 => ?_)
      · rw [if_pos c1008] at h
        refine lv_iload hx hb dL_areLoads_211 (lv_at hl 0 rfl) ?_
        refine lv_bipush (v := -2) hx hb dL_areLoads_213 (by decide) ?_
        refine lv_icmp_ne (tgt := 222) hx hb dL_areLoads_215 (by decide) (fun c1009 => ?_) (fun c1009 => ?_)
        · rw [if_neg c1009] at h
          refine lv_iconst (v := 0) hx hb dL_areLoads_222 (by decide) ?_
          cases h
        · rw [if_pos c1009] at h
          refine lv_iconst (v := 1) hx hb dL_areLoads_218 (by decide) ?_
          refine lv_goto (tgt := 223) hx hb dL_areLoads_219 (by decide) ?_
          refine lv_istore (lv' := [(12, .int (1)), (11, .int (r1005)), (0, rf g (0)), (2, .int (he)), (3, .int (se)), (4, .int (lo)), (5, .int (su)), (6, .int (nn)), (7, .int (ta)), (8, .int (li)), (9, .ref wq), (10, .int (mn))]) hx hb dL_areLoads_223 hl (by decide) rfl (fun ls hl => ?_)
          exact t_L_areLoads_225 l g FU Mw1006 F he mn _ _ h C hr hlk _ _ hW hS hY ls (lv_sub hl [2, 3, 10, 11, 0] rfl)
      · rw [if_neg c1008] at h
        refine lv_iload hx hb dL_areLoads_159 (lv_at hl 0 rfl) ?_
        refine lv_iload hx hb dL_areLoads_161 (lv_at hl 5 rfl) ?_
        refine lv_iload hx hb dL_areLoads_163 (lv_at hl 4 rfl) ?_
        refine lv_iadd hx hb dL_areLoads_165 ?_
        refine lv_iconst (v := 1) hx hb dL_areLoads_166 (by decide) ?_
        refine lv_isub hx hb dL_areLoads_167 ?_
        refine lv_iload hx hb dL_areLoads_168 (lv_at hl 4 rfl) ?_
        have s1010 : ¬ ((lo : Int32) = 0) := fun q9 => by rw [if_pos q9] at h; cases h
        rw [if_neg s1010] at h
        refine lv_idiv hx hb dL_areLoads_170 s1010 ?_
        refine lv_icmp_lt (tgt := 207) hx hb dL_areLoads_171 (by decide) (fun c1011 => ?_) (fun c1011 => ?_)
        · rw [if_pos c1011] at h
          refine lv_iconst (v := 0) hx hb dL_areLoads_207 (by decide) ?_
          refine lv_goto (tgt := 223) hx hb dL_areLoads_208 (by decide) ?_
          cases h
        · rw [if_neg c1011] at h
          refine lv_iload hx hb dL_areLoads_174 (lv_at hl 0 rfl) ?_
          refine lv_iload hx hb dL_areLoads_176 (lv_at hl 6 rfl) ?_
          refine lv_icmp_gt (tgt := 207) hx hb dL_areLoads_178 (by decide) (fun c1012 => ?_) (fun c1012 => ?_)
          · rw [if_pos c1012] at h
            refine lv_iconst (v := 0) hx hb dL_areLoads_207 (by decide) ?_
            refine lv_goto (tgt := 223) hx hb dL_areLoads_208 (by decide) ?_
            cases h
          · rw [if_neg c1012] at h
            refine lv_iload_n hx hb dL_areLoads_181 rfl (lv_at hl 3 rfl) ?_
            refine diaF (P := (se : Int32) = 0) (A := 1) (B := 0) (F := fun z9 => W p l e (RN 6 152 1 12) s m av below meth c H locs 1 12 (MQ below (QU g (fun v w0 => v = .int r ∧ M2 = w0)) av s 1 12 (AU g)) (F0 m 190 ls [.int z9])) (fun a9 b9 => lv_if_ne (tgt := 189) hx hb dL_areLoads_182 (by decide) a9 b9) (fun k9 => ?_) (fun k9 => ?_) ?_
            · refine lv_iconst (v := 0) hx hb dL_areLoads_189 (by decide) ?_
              exact k9
            · refine lv_iconst (v := 1) hx hb dL_areLoads_185 (by decide) ?_
              refine lv_goto (tgt := 190) hx hb dL_areLoads_186 (by decide) ?_
              exact k9
            refine lv_iload hx hb dL_areLoads_190 (lv_at hl 0 rfl) ?_
            refine diaF (P := (r1005 : Int32) = 0) (A := 1) (B := 0) (F := fun z9 => W p l e (RN 6 152 1 12) s m av below meth c H locs 1 12 (MQ below (QU g (fun v w0 => v = .int r ∧ M2 = w0)) av s 1 12 (AU g)) (F0 m 200 ls [.int z9, .int (if (se : Int32) = 0 then (1 : Int32) else (0 : Int32))])) (fun a9 b9 => lv_if_ne (tgt := 199) hx hb dL_areLoads_192 (by decide) a9 b9) (fun k9 => ?_) (fun k9 => ?_) ?_
            · refine lv_iconst (v := 0) hx hb dL_areLoads_199 (by decide) ?_
              exact k9
            · refine lv_iconst (v := 1) hx hb dL_areLoads_195 (by decide) ?_
              refine lv_goto (tgt := 200) hx hb dL_areLoads_196 (by decide) ?_
              exact k9
            refine lv_icmp_ne (tgt := 207) hx hb dL_areLoads_200 (by decide) (fun c1013 => ?_) (fun c1013 => ?_)
            · rw [if_neg c1013] at h
              refine lv_iconst (v := 0) hx hb dL_areLoads_207 (by decide) ?_
              refine lv_goto (tgt := 223) hx hb dL_areLoads_208 (by decide) ?_
              cases h
            · rw [if_pos c1013] at h
              refine lv_iconst (v := 1) hx hb dL_areLoads_203 (by decide) ?_
              refine lv_goto (tgt := 223) hx hb dL_areLoads_204 (by decide) ?_
              refine lv_istore (lv' := [(12, .int (1)), (11, .int (r1005)), (0, rf g (0)), (2, .int (he)), (3, .int (se)), (4, .int (lo)), (5, .int (su)), (6, .int (nn)), (7, .int (ta)), (8, .int (li)), (9, .ref wq), (10, .int (mn))]) hx hb dL_areLoads_223 hl (by decide) rfl (fun ls hl => ?_)
              exact t_L_areLoads_225 l g FU Mw1006 F he mn _ _ h C hr hlk _ _ hW hS hY ls (lv_sub hl [2, 3, 10, 11, 0] rfl)
    · rw [if_neg c1004] at h
      refine lv_aload_n hx hb dL_areLoads_67 rfl (lv_at hl 0 rfl) ?_
      refine lv_iload hx hb dL_areLoads_68 (lv_at hl 10 rfl) ?_
      refine lv_bipush (v := 8) hx hb dL_areLoads_70 (by decide) ?_
      obtain ⟨r1014, Mw1015, h1016, h⟩ := bind2 h
      refine cBackC C.2.2.2.2.2.2.2.2 (runVU (As := [.int (z), .int (8)]) (rest := []) C hW hS (c_X10_bell l g Mw1002 z 8 _ _ h1016) kV_X10_bell ml_L_26 (by decide) tm_BF rfl rfl rfl hl.1 rfl (Nat.le_of_ble_eq_true rfl) ⟨Nat.le_of_ble_eq_true rfl, Nat.le_of_ble_eq_true rfl⟩ ⟨Nat.le_of_ble_eq_true rfl, Nat.le_of_ble_eq_true rfl⟩ dL_areLoads_72) hS (fun v0 w0 H locs hp hW hS hq => ?_)
      obtain ⟨rfl, rfl⟩ := hp
      have hY := hY.kept hq
      refine lv_iconst (v := 2) hx hb dL_areLoads_75 (by decide) ?_
      refine lv_icmp_ge (tgt := 141) hx hb dL_areLoads_76 (by decide) (fun c1017 => ?_) (fun c1017 => ?_)
      · rw [if_pos c1017] at h
        refine lv_iinc (v := z + 1) (lv' := [(11, .int (z + 1)), (0, rf g (0)), (2, .int (he)), (3, .int (se)), (4, .int (lo)), (5, .int (su)), (6, .int (nn)), (7, .int (ta)), (8, .int (li)), (9, .ref wq), (10, .int (mn))]) hx hb dL_areLoads_141 hl (k := 10) rfl rfl (by decide) rfl (fun ls hl => ?_)
        refine lv_goto (tgt := 57) hx hb dL_areLoads_144 (by decide) ?_
        exact ih Mw1015 F he se lo su nn ta li mn (z + 1) h _ _ hW hS hY ls (lv_sub hl [1, 2, 3, 4, 5, 6, 7, 8, 9, 10, 0] rfl)
      · rw [if_neg c1017] at h
        refine lv_iload_n hx hb dL_areLoads_79 rfl (lv_at hl 2 rfl) ?_
        refine lv_iload hx hb dL_areLoads_80 (lv_at hl 6 rfl) ?_
        refine lv_ishr hx hb dL_areLoads_82 ?_
        refine lv_iconst (v := 1) hx hb dL_areLoads_83 (by decide) ?_
        refine lv_iand hx hb dL_areLoads_84 ?_
        refine lv_iconst (v := 1) hx hb dL_areLoads_85 (by decide) ?_
        refine lv_icmp_ne (tgt := 128) hx hb dL_areLoads_86 (by decide) (fun c1018 => ?_) (fun c1018 => ?_)
        · rw [if_neg c1018] at h
          refine lv_aload hx hb dL_areLoads_128 (lv_at hl 8 rfl) ?_
          refine lv_iload hx hb dL_areLoads_130 (lv_at hl 9 rfl) ?_
          refine lv_iload hx hb dL_areLoads_132 (lv_at hl 10 rfl) ?_
          have s1019 : vin (mn) 12 := Classical.byContradiction fun q9 => by rw [if_neg q9] at h; cases h
          rw [if_pos s1019] at h
          refine rIstW C hW hS hY s1019 dL_areLoads_134 (fun H locs hW hS hY => ?_)
          refine lv_iinc (v := mn + 1) (lv' := [(10, .int (mn + 1)), (0, rf g (0)), (2, .int (he)), (3, .int (se)), (4, .int (lo)), (5, .int (su)), (6, .int (nn)), (7, .int (ta)), (8, .int (li)), (9, .ref wq), (11, .int (z))]) hx hb dL_areLoads_135 hl (k := 9) rfl rfl (by decide) rfl (fun ls hl => ?_)
          refine lv_iinc (v := ta + 1) (lv' := [(7, .int (ta + 1)), (10, .int (mn + 1)), (0, rf g (0)), (2, .int (he)), (3, .int (se)), (4, .int (lo)), (5, .int (su)), (6, .int (nn)), (8, .int (li)), (9, .ref wq), (11, .int (z))]) hx hb dL_areLoads_138 hl (k := 7) rfl rfl (by decide) rfl (fun ls hl => ?_)
          refine lv_iinc (v := z + 1) (lv' := [(11, .int (z + 1)), (7, .int (ta + 1)), (10, .int (mn + 1)), (0, rf g (0)), (2, .int (he)), (3, .int (se)), (4, .int (lo)), (5, .int (su)), (6, .int (nn)), (8, .int (li)), (9, .ref wq)]) hx hb dL_areLoads_141 hl (k := 10) rfl rfl (by decide) rfl (fun ls hl => ?_)
          refine lv_goto (tgt := 57) hx hb dL_areLoads_144 (by decide) ?_
          exact ih Mw1015 (upd F (mn : Int32).toNatClampNeg (z)) he se lo su nn (ta + 1) li (mn + 1) (z + 1) h _ _ hW hS hY ls (lv_sub hl [3, 4, 5, 6, 7, 8, 1, 9, 10, 2, 0] rfl)
        · rw [if_pos c1018] at h
          refine lv_iload hx hb dL_areLoads_89 (lv_at hl 4 rfl) ?_
          refine lv_aload_n hx hb dL_areLoads_91 rfl (lv_at hl 0 rfl) ?_
          refine lv_iload hx hb dL_areLoads_92 (lv_at hl 10 rfl) ?_
          refine lv_iconst (v := 2) hx hb dL_areLoads_94 (by decide) ?_
          obtain ⟨r1020, Mw1021, h1022, h⟩ := bind2 h
          refine cBackC C.2.2.2.2.2.2.2.2 (runVU (As := [.int (z), .int (2)]) (rest := [.int (su)]) C hW hS (c_X10_bell l g Mw1015 z 2 _ _ h1022) kV_X10_bell ml_L_26 (by decide) tm_BF rfl rfl rfl hl.1 rfl (Nat.le_of_ble_eq_true rfl) ⟨Nat.le_of_ble_eq_true rfl, Nat.le_of_ble_eq_true rfl⟩ ⟨Nat.le_of_ble_eq_true rfl, Nat.le_of_ble_eq_true rfl⟩ dL_areLoads_95) hS (fun v0 w0 H locs hp hW hS hq => ?_)
          obtain ⟨rfl, rfl⟩ := hp
          have hY := hY.kept hq
          refine lv_iadd hx hb dL_areLoads_98 ?_
          refine lv_istore (lv' := [(5, .int ((su) + (r1020))), (0, rf g (0)), (2, .int (he)), (3, .int (se)), (4, .int (lo)), (6, .int (nn)), (7, .int (ta)), (8, .int (li)), (9, .ref wq), (10, .int (mn)), (11, .int (z))]) hx hb dL_areLoads_99 hl (by decide) rfl (fun ls hl => ?_)
          refine lv_iload hx hb dL_areLoads_101 (lv_at hl 7 rfl) ?_
          refine lv_if_eq (tgt := 122) hx hb dL_areLoads_103 (by decide) (fun c1023 => ?_) (fun c1023 => ?_)
          · rw [if_pos c1023] at h
            refine lv_iconst (v := 0) hx hb dL_areLoads_122 (by decide) ?_
            refine lv_istore (lv' := [(8, .int (0)), (5, .int ((su) + (r1020))), (0, rf g (0)), (2, .int (he)), (3, .int (se)), (4, .int (lo)), (6, .int (nn)), (7, .int (ta)), (9, .ref wq), (10, .int (mn)), (11, .int (z))]) hx hb dL_areLoads_123 hl (by decide) rfl (fun ls hl => ?_)
            refine lv_iinc (v := nn + 1) (lv' := [(6, .int (nn + 1)), (8, .int (0)), (5, .int ((su) + (r1020))), (0, rf g (0)), (2, .int (he)), (3, .int (se)), (4, .int (lo)), (7, .int (ta)), (9, .ref wq), (10, .int (mn)), (11, .int (z))]) hx hb dL_areLoads_125 hl (k := 6) rfl rfl (by decide) rfl (fun ls hl => ?_)
            refine lv_aload hx hb dL_areLoads_128 (lv_at hl 8 rfl) ?_
            refine lv_iload hx hb dL_areLoads_130 (lv_at hl 9 rfl) ?_
            refine lv_iload hx hb dL_areLoads_132 (lv_at hl 10 rfl) ?_
            have s1024 : vin (mn) 12 := Classical.byContradiction fun q9 => by rw [if_neg q9] at h; cases h
            rw [if_pos s1024] at h
            refine rIstW C hW hS hY s1024 dL_areLoads_134 (fun H locs hW hS hY => ?_)
            refine lv_iinc (v := mn + 1) (lv' := [(10, .int (mn + 1)), (6, .int (nn + 1)), (8, .int (0)), (5, .int ((su) + (r1020))), (0, rf g (0)), (2, .int (he)), (3, .int (se)), (4, .int (lo)), (7, .int (ta)), (9, .ref wq), (11, .int (z))]) hx hb dL_areLoads_135 hl (k := 9) rfl rfl (by decide) rfl (fun ls hl => ?_)
            refine lv_iinc (v := ta + 1) (lv' := [(7, .int (ta + 1)), (10, .int (mn + 1)), (6, .int (nn + 1)), (8, .int (0)), (5, .int ((su) + (r1020))), (0, rf g (0)), (2, .int (he)), (3, .int (se)), (4, .int (lo)), (9, .ref wq), (11, .int (z))]) hx hb dL_areLoads_138 hl (k := 8) rfl rfl (by decide) rfl (fun ls hl => ?_)
            refine lv_iinc (v := z + 1) (lv' := [(11, .int (z + 1)), (7, .int (ta + 1)), (10, .int (mn + 1)), (6, .int (nn + 1)), (8, .int (0)), (5, .int ((su) + (r1020))), (0, rf g (0)), (2, .int (he)), (3, .int (se)), (4, .int (lo)), (9, .ref wq)]) hx hb dL_areLoads_141 hl (k := 10) rfl rfl (by decide) rfl (fun ls hl => ?_)
            refine lv_goto (tgt := 57) hx hb dL_areLoads_144 (by decide) ?_
            exact ih Mw1021 (upd F (mn : Int32).toNatClampNeg (z)) he se lo ((su) + (r1020)) (nn + 1) (ta + 1) 0 (mn + 1) (z + 1) h _ _ hW hS hY ls (lv_sub hl [6, 7, 8, 9, 5, 3, 1, 4, 10, 2, 0] rfl)
          · rw [if_neg c1023] at h
            refine lv_aload_n hx hb dL_areLoads_106 rfl (lv_at hl 1 rfl) ?_
            refine lv_iload hx hb dL_areLoads_107 (lv_at hl 10 rfl) ?_
            refine lv_iconst (v := 2) hx hb dL_areLoads_109 (by decide) ?_
            obtain ⟨r1025, Mw1026, h1027, h⟩ := bind2 h
            refine cBackC C.2.2.2.2.2.2.2.2 (runVU (As := [.int (z), .int (2)]) (rest := []) C hW hS (c_X10_bell l g Mw1021 z 2 _ _ h1027) kV_X10_bell ml_L_26 (by decide) tm_BF rfl rfl rfl hl.1 rfl (Nat.le_of_ble_eq_true rfl) ⟨Nat.le_of_ble_eq_true rfl, Nat.le_of_ble_eq_true rfl⟩ ⟨Nat.le_of_ble_eq_true rfl, Nat.le_of_ble_eq_true rfl⟩ dL_areLoads_110) hS (fun v0 w0 H locs hp hW hS hq => ?_)
            obtain ⟨rfl, rfl⟩ := hp
            have hY := hY.kept hq
            refine lv_iload hx hb dL_areLoads_113 (lv_at hl 4 rfl) ?_
            refine lv_icmp_gt (tgt := 122) hx hb dL_areLoads_115 (by decide) (fun c1028 => ?_) (fun c1028 => ?_)
            · rw [if_pos c1028] at h
              refine lv_iconst (v := 0) hx hb dL_areLoads_122 (by decide) ?_
              refine lv_istore (lv' := [(8, .int (0)), (5, .int ((su) + (r1020))), (0, rf g (0)), (2, .int (he)), (3, .int (se)), (4, .int (lo)), (6, .int (nn)), (7, .int (ta)), (9, .ref wq), (10, .int (mn)), (11, .int (z))]) hx hb dL_areLoads_123 hl (by decide) rfl (fun ls hl => ?_)
              refine lv_iinc (v := nn + 1) (lv' := [(6, .int (nn + 1)), (8, .int (0)), (5, .int ((su) + (r1020))), (0, rf g (0)), (2, .int (he)), (3, .int (se)), (4, .int (lo)), (7, .int (ta)), (9, .ref wq), (10, .int (mn)), (11, .int (z))]) hx hb dL_areLoads_125 hl (k := 6) rfl rfl (by decide) rfl (fun ls hl => ?_)
              refine lv_aload hx hb dL_areLoads_128 (lv_at hl 8 rfl) ?_
              refine lv_iload hx hb dL_areLoads_130 (lv_at hl 9 rfl) ?_
              refine lv_iload hx hb dL_areLoads_132 (lv_at hl 10 rfl) ?_
              have s1029 : vin (mn) 12 := Classical.byContradiction fun q9 => by rw [if_neg q9] at h; cases h
              rw [if_pos s1029] at h
              refine rIstW C hW hS hY s1029 dL_areLoads_134 (fun H locs hW hS hY => ?_)
              refine lv_iinc (v := mn + 1) (lv' := [(10, .int (mn + 1)), (6, .int (nn + 1)), (8, .int (0)), (5, .int ((su) + (r1020))), (0, rf g (0)), (2, .int (he)), (3, .int (se)), (4, .int (lo)), (7, .int (ta)), (9, .ref wq), (11, .int (z))]) hx hb dL_areLoads_135 hl (k := 9) rfl rfl (by decide) rfl (fun ls hl => ?_)
              refine lv_iinc (v := ta + 1) (lv' := [(7, .int (ta + 1)), (10, .int (mn + 1)), (6, .int (nn + 1)), (8, .int (0)), (5, .int ((su) + (r1020))), (0, rf g (0)), (2, .int (he)), (3, .int (se)), (4, .int (lo)), (9, .ref wq), (11, .int (z))]) hx hb dL_areLoads_138 hl (k := 8) rfl rfl (by decide) rfl (fun ls hl => ?_)
              refine lv_iinc (v := z + 1) (lv' := [(11, .int (z + 1)), (7, .int (ta + 1)), (10, .int (mn + 1)), (6, .int (nn + 1)), (8, .int (0)), (5, .int ((su) + (r1020))), (0, rf g (0)), (2, .int (he)), (3, .int (se)), (4, .int (lo)), (9, .ref wq)]) hx hb dL_areLoads_141 hl (k := 10) rfl rfl (by decide) rfl (fun ls hl => ?_)
              refine lv_goto (tgt := 57) hx hb dL_areLoads_144 (by decide) ?_
              exact ih Mw1026 (upd F (mn : Int32).toNatClampNeg (z)) he se lo ((su) + (r1020)) (nn + 1) (ta + 1) 0 (mn + 1) (z + 1) h _ _ hW hS hY ls (lv_sub hl [6, 7, 8, 9, 5, 3, 1, 4, 10, 2, 0] rfl)
            · rw [if_neg c1028] at h
              refine lv_iconst (v := 1) hx hb dL_areLoads_118 (by decide) ?_
              refine lv_goto (tgt := 123) hx hb dL_areLoads_119 (by decide) ?_
              refine lv_istore (lv' := [(8, .int (1)), (5, .int ((su) + (r1020))), (0, rf g (0)), (2, .int (he)), (3, .int (se)), (4, .int (lo)), (6, .int (nn)), (7, .int (ta)), (9, .ref wq), (10, .int (mn)), (11, .int (z))]) hx hb dL_areLoads_123 hl (by decide) rfl (fun ls hl => ?_)
              refine lv_iinc (v := nn + 1) (lv' := [(6, .int (nn + 1)), (8, .int (1)), (5, .int ((su) + (r1020))), (0, rf g (0)), (2, .int (he)), (3, .int (se)), (4, .int (lo)), (7, .int (ta)), (9, .ref wq), (10, .int (mn)), (11, .int (z))]) hx hb dL_areLoads_125 hl (k := 6) rfl rfl (by decide) rfl (fun ls hl => ?_)
              refine lv_aload hx hb dL_areLoads_128 (lv_at hl 8 rfl) ?_
              refine lv_iload hx hb dL_areLoads_130 (lv_at hl 9 rfl) ?_
              refine lv_iload hx hb dL_areLoads_132 (lv_at hl 10 rfl) ?_
              have s1030 : vin (mn) 12 := Classical.byContradiction fun q9 => by rw [if_neg q9] at h; cases h
              rw [if_pos s1030] at h
              refine rIstW C hW hS hY s1030 dL_areLoads_134 (fun H locs hW hS hY => ?_)
              refine lv_iinc (v := mn + 1) (lv' := [(10, .int (mn + 1)), (6, .int (nn + 1)), (8, .int (1)), (5, .int ((su) + (r1020))), (0, rf g (0)), (2, .int (he)), (3, .int (se)), (4, .int (lo)), (7, .int (ta)), (9, .ref wq), (11, .int (z))]) hx hb dL_areLoads_135 hl (k := 9) rfl rfl (by decide) rfl (fun ls hl => ?_)
              refine lv_iinc (v := ta + 1) (lv' := [(7, .int (ta + 1)), (10, .int (mn + 1)), (6, .int (nn + 1)), (8, .int (1)), (5, .int ((su) + (r1020))), (0, rf g (0)), (2, .int (he)), (3, .int (se)), (4, .int (lo)), (9, .ref wq), (11, .int (z))]) hx hb dL_areLoads_138 hl (k := 8) rfl rfl (by decide) rfl (fun ls hl => ?_)
              refine lv_iinc (v := z + 1) (lv' := [(11, .int (z + 1)), (7, .int (ta + 1)), (10, .int (mn + 1)), (6, .int (nn + 1)), (8, .int (1)), (5, .int ((su) + (r1020))), (0, rf g (0)), (2, .int (he)), (3, .int (se)), (4, .int (lo)), (9, .ref wq)]) hx hb dL_areLoads_141 hl (k := 10) rfl rfl (by decide) rfl (fun ls hl => ?_)
              refine lv_goto (tgt := 57) hx hb dL_areLoads_144 (by decide) ?_
              exact ih Mw1026 (upd F (mn : Int32).toNatClampNeg (z)) he se lo ((su) + (r1020)) (nn + 1) (ta + 1) 1 (mn + 1) (z + 1) h _ _ hW hS hY ls (lv_sub hl [6, 7, 8, 9, 5, 3, 1, 4, 10, 2, 0] rfl)
set_option maxHeartbeats 4000000 in
set_option maxRecDepth 100000 in
theorem c_L_areLoads (l : Launch) (g : GD) (M : MM) (x : Int32) (r : Int32) (M2 : MM) (h : f_L_areLoads M x = some (r, M2)) : Met l yL_areLoads (wm yL_areLoads cL_areLoads 21 (some .boolean)) (RN 6 152 1 12) (va_Pc [rf g (0), .int (x)] (WDp g M)) (QU g (fun v w0 => v = .int r ∧ M2 = w0)) 1 12 (AU g) := by
  refine mkU (by decide +kernel) (Nat.le_of_ble_eq_true rfl) ?_
  intro p e s m below meth c C hr hlk hW hS ls hl
  have hl : lv_has ls 21 [(0, rf g (0)), (1, .int (x))] := hl
  have hx := C.1
  have hb := C.2.1
  have hts := C.2.2.2.2.1
  unfold f_L_areLoads at h
  refine lv_aload_n hx hb dL_areLoads_0 rfl (lv_at hl 0 rfl) ?_
  refine lv_iconst (v := 2) hx hb dL_areLoads_1 (by decide) ?_
  obtain ⟨r1, Mw2, h3, h⟩ := bind2 h
  refine cBackC C.2.2.2.2.2.2.2.2 (runVU (As := [.int (2)]) (rest := []) C hW hS (c_X10_count l g M 2 _ _ h3) kV_X10_count ml_L_13 (by decide) tm_BF rfl rfl rfl hl.1 rfl (Nat.le_of_ble_eq_true rfl) ⟨Nat.le_of_ble_eq_true rfl, Nat.le_of_ble_eq_true rfl⟩ ⟨Nat.le_of_ble_eq_true rfl, Nat.le_of_ble_eq_true rfl⟩ dL_areLoads_2) hS (fun v0 w0 H locs hp hW hS hq => ?_)
  obtain ⟨rfl, rfl⟩ := hp
  refine lv_istore_n (lv' := [(2, .int (r1)), (0, rf g (0)), (1, .int (x))]) hx hb dL_areLoads_5 rfl hl (by decide) rfl (fun ls hl => ?_)
  refine lv_iload_n hx hb dL_areLoads_6 rfl (lv_at hl 2 rfl) ?_
  refine lv_iconst (v := 1) hx hb dL_areLoads_7 (by decide) ?_
  refine lv_iload_n hx hb dL_areLoads_8 rfl (lv_at hl 0 rfl) ?_
  refine lv_bipush (v := 6) hx hb dL_areLoads_9 (by decide) ?_
  refine diaT (P := (6 : Int32) ≤ (r1 : Int32)) (A := 6) (B := r1) (F := fun z9 => W p l e (RN 6 152 1 12) s m [rf g (0), .int (x)].toArray below meth c H locs 0 0 (MQ below (QU g (fun v w0 => v = .int r ∧ M2 = w0)) [rf g (0), .int (x)].toArray s 1 12 (AU g)) (F0 m 20 ls [.int z9, .int (1), .int (x)])) (fun a9 b9 => lv_icmp_ge (tgt := 18) hx hb dL_areLoads_11 (by decide) a9 b9) (fun k9 => ?_) (fun k9 => ?_) ?_
  · refine lv_bipush (v := 6) hx hb dL_areLoads_18 (by decide) ?_
    exact k9
  · refine lv_iload_n hx hb dL_areLoads_14 rfl (lv_at hl 0 rfl) ?_
    refine lv_goto (tgt := 20) hx hb dL_areLoads_15 (by decide) ?_
    exact k9
  refine lv_ishl hx hb dL_areLoads_20 ?_
  obtain ⟨r4, Mw5, h6, h⟩ := bind2 h
  refine cBackL C.2.2.2.2.2.2.2.2 (runSU (As := [.int (x), .int ((1) <<< ((if (6 : Int32) ≤ (r1 : Int32) then (6 : Int32) else (r1 : Int32)) &&& 31))]) (rest := []) C hW hS (c_L_low l g Mw2 x ((1) <<< ((if (6 : Int32) ≤ (r1 : Int32) then (6 : Int32) else (r1 : Int32)) &&& 31)) _ _ h6) kS_L_low ml_L_96 rfl hl.1 rfl (Nat.le_of_ble_eq_true rfl) ⟨Nat.le_of_ble_eq_true rfl, Nat.le_of_ble_eq_true rfl⟩ ⟨Nat.le_of_ble_eq_true rfl, Nat.le_of_ble_eq_true rfl⟩ dL_areLoads_21) hS (fun v0 w0 H locs hp hW hS => ?_)
  obtain ⟨rfl, rfl⟩ := hp
  refine lv_istore_n (lv' := [(3, .int (r4)), (2, .int (r1)), (0, rf g (0)), (1, .int (x))]) hx hb dL_areLoads_24 rfl hl (by decide) rfl (fun ls hl => ?_)
  refine lv_aload_n hx hb dL_areLoads_25 rfl (lv_at hl 2 rfl) ?_
  refine lv_bipush (v := 26) hx hb dL_areLoads_26 (by decide) ?_
  obtain ⟨r7, Mw8, h9, h⟩ := bind2 h
  refine cBackC C.2.2.2.2.2.2.2.2 (runVU (As := [.int (26)]) (rest := []) C hW hS (c_X10_count l g Mw5 26 _ _ h9) kV_X10_count ml_L_13 (by decide) tm_BF rfl rfl rfl hl.1 rfl (Nat.le_of_ble_eq_true rfl) ⟨Nat.le_of_ble_eq_true rfl, Nat.le_of_ble_eq_true rfl⟩ ⟨Nat.le_of_ble_eq_true rfl, Nat.le_of_ble_eq_true rfl⟩ dL_areLoads_28) hS (fun v0 w0 H locs hp hW hS hq => ?_)
  obtain ⟨rfl, rfl⟩ := hp
  refine lv_istore (lv' := [(4, .int (r7)), (3, .int (r4)), (2, .int (r1)), (0, rf g (0)), (1, .int (x))]) hx hb dL_areLoads_31 hl (by decide) rfl (fun ls hl => ?_)
  refine lv_iconst (v := 0) hx hb dL_areLoads_33 (by decide) ?_
  refine lv_istore (lv' := [(5, .int (0)), (4, .int (r7)), (3, .int (r4)), (2, .int (r1)), (0, rf g (0)), (1, .int (x))]) hx hb dL_areLoads_34 hl (by decide) rfl (fun ls hl => ?_)
  refine lv_iconst (v := 0) hx hb dL_areLoads_36 (by decide) ?_
  refine lv_istore (lv' := [(6, .int (0)), (5, .int (0)), (4, .int (r7)), (3, .int (r4)), (2, .int (r1)), (0, rf g (0)), (1, .int (x))]) hx hb dL_areLoads_37 hl (by decide) rfl (fun ls hl => ?_)
  refine lv_iconst (v := 0) hx hb dL_areLoads_39 (by decide) ?_
  refine lv_istore (lv' := [(7, .int (0)), (6, .int (0)), (5, .int (0)), (4, .int (r7)), (3, .int (r4)), (2, .int (r1)), (0, rf g (0)), (1, .int (x))]) hx hb dL_areLoads_40 hl (by decide) rfl (fun ls hl => ?_)
  refine lv_iconst (v := 1) hx hb dL_areLoads_42 (by decide) ?_
  refine lv_istore (lv' := [(8, .int (1)), (7, .int (0)), (6, .int (0)), (5, .int (0)), (4, .int (r7)), (3, .int (r4)), (2, .int (r1)), (0, rf g (0)), (1, .int (x))]) hx hb dL_areLoads_43 hl (by decide) rfl (fun ls hl => ?_)
  refine lv_bipush (v := 12) hx hb dL_areLoads_45 (by decide) ?_
  refine rNewW C hW hS ⟨Nat.le_of_ble_eq_true rfl, Nat.le_of_ble_eq_true rfl⟩ dL_areLoads_47 (fun wq H hW hS hY => ?_)
  refine lv_astore (lv' := [(9, .ref wq), (8, .int (1)), (7, .int (0)), (6, .int (0)), (5, .int (0)), (4, .int (r7)), (3, .int (r4)), (2, .int (r1)), (0, rf g (0)), (1, .int (x))]) hx hb dL_areLoads_49 hl (by decide) rfl (fun ls hl => ?_)
  refine lv_iconst (v := 0) hx hb dL_areLoads_51 (by decide) ?_
  refine lv_istore (lv' := [(10, .int (0)), (9, .ref wq), (8, .int (1)), (7, .int (0)), (6, .int (0)), (5, .int (0)), (4, .int (r7)), (3, .int (r4)), (2, .int (r1)), (0, rf g (0)), (1, .int (x))]) hx hb dL_areLoads_52 hl (by decide) rfl (fun ls hl => ?_)
  refine lv_iconst (v := 0) hx hb dL_areLoads_54 (by decide) ?_
  refine lv_istore (lv' := [(11, .int (0)), (10, .int (0)), (9, .ref wq), (8, .int (1)), (7, .int (0)), (6, .int (0)), (5, .int (0)), (4, .int (r7)), (3, .int (r4)), (2, .int (r1)), (0, rf g (0)), (1, .int (x))]) hx hb dL_areLoads_55 hl (by decide) rfl (fun ls hl => ?_)
  exact t_L_areLoads_57 l g FU Mw8 (fun _ => 0) r1 r4 r7 0 0 0 1 0 0 _ _ h C hr hlk _ _ hW hS hY ls (lv_sub hl [10, 9, 8, 7, 6, 5, 4, 3, 2, 1, 0] rfl)
