def lp_law (fu : Nat) (M : MM) (xs : Nat → Int32) (L : Nat) (z : Int32) : Option Unit := match fu with
  | 0 => none
  | n + 1 => (if ((Int32.ofNat L) - (4) : Int32) < (z : Int32) then some () else (if vin (z) L then (if ((xs (z : Int32).toNatClampNeg) &&& (31) : Int32) = 0 then (if vin ((z) + (1)) L then (if vin ((z) + (2)) L then (bnd2 (f_X10_buy M (xs ((z) + (1) : Int32).toNatClampNeg) (xs ((z) + (2) : Int32).toNatClampNeg)) fun r6 M7 => (if vin ((z) + (1)) L then (if vin ((z) + (2)) L then (bnd2 (f_X11_buy M7 (xs ((z) + (1) : Int32).toNatClampNeg) (xs ((z) + (2) : Int32).toNatClampNeg)) fun r11 M12 => (if (r6 : Int32) = (r11 : Int32) then (lp_law n M12 xs L (z + 4)) else none)) else none) else none)) else none) else none) else (if ((xs (z : Int32).toNatClampNeg) &&& (31) : Int32) = 1 then (if vin ((z) + (1)) L then (if vin ((z) + (2)) L then (bnd2 (f_X10_charge M (xs ((z) + (1) : Int32).toNatClampNeg) (xs ((z) + (2) : Int32).toNatClampNeg)) fun r18 M19 => (if vin ((z) + (1)) L then (if vin ((z) + (2)) L then (bnd2 (f_X11_charge M19 (xs ((z) + (1) : Int32).toNatClampNeg) (xs ((z) + (2) : Int32).toNatClampNeg)) fun r23 M24 => (if (r18 : Int32) = (r23 : Int32) then (lp_law n M24 xs L (z + 4)) else none)) else none) else none)) else none) else none) else (if ((xs (z : Int32).toNatClampNeg) &&& (31) : Int32) = 2 then (if vin ((z) + (1)) L then (bnd2 (f_X10_scrap M (xs ((z) + (1) : Int32).toNatClampNeg)) fun r29 M30 => (if vin ((z) + (1)) L then (bnd2 (f_X11_scrap M30 (xs ((z) + (1) : Int32).toNatClampNeg)) fun r33 M34 => (if (r29 : Int32) = (r33 : Int32) then (lp_law n M34 xs L (z + 4)) else none)) else none)) else none) else (if ((xs (z : Int32).toNatClampNeg) &&& (31) : Int32) = 3 then (if vin ((z) + (1)) L then (if vin ((z) + (2)) L then (bnd2 (f_X10_lot M (xs ((z) + (1) : Int32).toNatClampNeg) (xs ((z) + (2) : Int32).toNatClampNeg)) fun r40 M41 => (if vin ((z) + (1)) L then (if vin ((z) + (2)) L then (bnd2 (f_X11_lot M41 (xs ((z) + (1) : Int32).toNatClampNeg) (xs ((z) + (2) : Int32).toNatClampNeg)) fun r45 M46 => (if (r40 : Int32) = (r45 : Int32) then (lp_law n M46 xs L (z + 4)) else none)) else none) else none)) else none) else none) else (if ((xs (z : Int32).toNatClampNeg) &&& (31) : Int32) = 4 then (if vin ((z) + (1)) L then (bnd2 (f_X10_melt M (xs ((z) + (1) : Int32).toNatClampNeg)) fun r51 M52 => (if vin ((z) + (1)) L then (bnd2 (f_X11_melt M52 (xs ((z) + (1) : Int32).toNatClampNeg)) fun r55 M56 => (if (r51 : Int32) = (r55 : Int32) then (lp_law n M56 xs L (z + 4)) else none)) else none)) else none) else (if ((xs (z : Int32).toNatClampNeg) &&& (31) : Int32) = 5 then (if vin ((z) + (1)) L then (if vin ((z) + (2)) L then (bnd2 (f_X10_set M (xs ((z) + (1) : Int32).toNatClampNeg) (xs ((z) + (2) : Int32).toNatClampNeg)) fun r62 M63 => (if vin ((z) + (1)) L then (if vin ((z) + (2)) L then (bnd2 (f_X11_set M63 (xs ((z) + (1) : Int32).toNatClampNeg) (xs ((z) + (2) : Int32).toNatClampNeg)) fun r67 M68 => (if (r62 : Int32) = (r67 : Int32) then (lp_law n M68 xs L (z + 4)) else none)) else none) else none)) else none) else none) else (if ((xs (z : Int32).toNatClampNeg) &&& (31) : Int32) = 6 then (if vin ((z) + (1)) L then (if vin ((z) + (2)) L then (bnd2 (f_X10_pour M (xs ((z) + (1) : Int32).toNatClampNeg) (xs ((z) + (2) : Int32).toNatClampNeg)) fun r74 M75 => (if vin ((z) + (1)) L then (if vin ((z) + (2)) L then (bnd2 (f_X11_pour M75 (xs ((z) + (1) : Int32).toNatClampNeg) (xs ((z) + (2) : Int32).toNatClampNeg)) fun r79 M80 => (if (r74 : Int32) = (r79 : Int32) then (lp_law n M80 xs L (z + 4)) else none)) else none) else none)) else none) else none) else (if ((xs (z : Int32).toNatClampNeg) &&& (31) : Int32) = 7 then (if vin ((z) + (1)) L then (if vin ((z) + (2)) L then (bnd2 (f_X10_tune M (xs ((z) + (1) : Int32).toNatClampNeg) (xs ((z) + (2) : Int32).toNatClampNeg)) fun r86 M87 => (if vin ((z) + (1)) L then (if vin ((z) + (2)) L then (bnd2 (f_X11_tune M87 (xs ((z) + (1) : Int32).toNatClampNeg) (xs ((z) + (2) : Int32).toNatClampNeg)) fun r91 M92 => (if (r86 : Int32) = (r91 : Int32) then (lp_law n M92 xs L (z + 4)) else none)) else none) else none)) else none) else none) else (if ((xs (z : Int32).toNatClampNeg) &&& (31) : Int32) = 8 then (if vin ((z) + (1)) L then (bnd2 (f_X10_smash M (xs ((z) + (1) : Int32).toNatClampNeg)) fun r97 M98 => (if vin ((z) + (1)) L then (bnd2 (f_X11_smash M98 (xs ((z) + (1) : Int32).toNatClampNeg)) fun r101 M102 => (if (r97 : Int32) = (r101 : Int32) then (lp_law n M102 xs L (z + 4)) else none)) else none)) else none) else (if ((xs (z : Int32).toNatClampNeg) &&& (31) : Int32) = 9 then (if vin ((z) + (1)) L then (if vin ((z) + (2)) L then (bnd2 (f_X10_bell M (xs ((z) + (1) : Int32).toNatClampNeg) (xs ((z) + (2) : Int32).toNatClampNeg)) fun r108 M109 => (if vin ((z) + (1)) L then (if vin ((z) + (2)) L then (bnd2 (f_X11_bell M109 (xs ((z) + (1) : Int32).toNatClampNeg) (xs ((z) + (2) : Int32).toNatClampNeg)) fun r113 M114 => (if (r108 : Int32) = (r113 : Int32) then (lp_law n M114 xs L (z + 4)) else none)) else none) else none)) else none) else none) else (if ((xs (z : Int32).toNatClampNeg) &&& (31) : Int32) = 10 then (if vin ((z) + (1)) L then (if vin ((z) + (2)) L then (if vin ((z) + (3)) L then (bnd2 (f_X10_order M (xs ((z) + (1) : Int32).toNatClampNeg) (xs ((z) + (2) : Int32).toNatClampNeg) (xs ((z) + (3) : Int32).toNatClampNeg)) fun r121 M122 => (if vin ((z) + (1)) L then (if vin ((z) + (2)) L then (if vin ((z) + (3)) L then (bnd2 (f_X11_order M122 (xs ((z) + (1) : Int32).toNatClampNeg) (xs ((z) + (2) : Int32).toNatClampNeg) (xs ((z) + (3) : Int32).toNatClampNeg)) fun r127 M128 => (if (r121 : Int32) = (r127 : Int32) then (lp_law n M128 xs L (z + 4)) else none)) else none) else none) else none)) else none) else none) else none) else (if ((xs (z : Int32).toNatClampNeg) &&& (31) : Int32) = 11 then (if vin ((z) + (1)) L then (bnd2 (f_X10_cancel M (xs ((z) + (1) : Int32).toNatClampNeg)) fun r133 M134 => (if vin ((z) + (1)) L then (bnd2 (f_X11_cancel M134 (xs ((z) + (1) : Int32).toNatClampNeg)) fun r137 M138 => (if (r133 : Int32) = (r137 : Int32) then (lp_law n M138 xs L (z + 4)) else none)) else none)) else none) else (if ((xs (z : Int32).toNatClampNeg) &&& (31) : Int32) = 12 then (if vin ((z) + (1)) L then (if vin ((z) + (2)) L then (bnd2 (f_X10_send M (xs ((z) + (1) : Int32).toNatClampNeg) (xs ((z) + (2) : Int32).toNatClampNeg)) fun r144 M145 => (if vin ((z) + (1)) L then (if vin ((z) + (2)) L then (bnd2 (f_X11_send M145 (xs ((z) + (1) : Int32).toNatClampNeg) (xs ((z) + (2) : Int32).toNatClampNeg)) fun r149 M150 => (if (r144 : Int32) = (r149 : Int32) then (lp_law n M150 xs L (z + 4)) else none)) else none) else none)) else none) else none) else (if ((xs (z : Int32).toNatClampNeg) &&& (31) : Int32) = 13 then (if vin ((z) + (1)) L then (if vin ((z) + (2)) L then (bnd2 (f_X10_orderOf M (xs ((z) + (1) : Int32).toNatClampNeg) (xs ((z) + (2) : Int32).toNatClampNeg)) fun r156 M157 => (if vin ((z) + (1)) L then (if vin ((z) + (2)) L then (bnd2 (f_X11_orderOf M157 (xs ((z) + (1) : Int32).toNatClampNeg) (xs ((z) + (2) : Int32).toNatClampNeg)) fun r161 M162 => (if (r156 : Int32) = (r161 : Int32) then (lp_law n M162 xs L (z + 4)) else none)) else none) else none)) else none) else none) else (if ((xs (z : Int32).toNatClampNeg) &&& (31) : Int32) = 14 then (if vin ((z) + (1)) L then (if vin ((z) + (2)) L then (bnd2 (f_X10_tuneFor M (xs ((z) + (1) : Int32).toNatClampNeg) (xs ((z) + (2) : Int32).toNatClampNeg)) fun r168 M169 => (if vin ((z) + (1)) L then (if vin ((z) + (2)) L then (bnd2 (f_X11_tuneFor M169 (xs ((z) + (1) : Int32).toNatClampNeg) (xs ((z) + (2) : Int32).toNatClampNeg)) fun r173 M174 => (if (r168 : Int32) = (r173 : Int32) then (lp_law n M174 xs L (z + 4)) else none)) else none) else none)) else none) else none) else (if ((xs (z : Int32).toNatClampNeg) &&& (31) : Int32) = 15 then (if vin ((z) + (1)) L then (bnd2 (f_X10_pourFor M (xs ((z) + (1) : Int32).toNatClampNeg)) fun r179 M180 => (if vin ((z) + (1)) L then (bnd2 (f_X11_pourFor M180 (xs ((z) + (1) : Int32).toNatClampNeg)) fun r183 M184 => (if (r179 : Int32) = (r183 : Int32) then (lp_law n M184 xs L (z + 4)) else none)) else none)) else none) else (if ((xs (z : Int32).toNatClampNeg) &&& (31) : Int32) = 16 then (if vin ((z) + (1)) L then (bnd2 (f_X10_wagons M (xs ((z) + (1) : Int32).toNatClampNeg)) fun r189 M190 => (if vin ((z) + (1)) L then (bnd2 (f_X11_wagons M190 (xs ((z) + (1) : Int32).toNatClampNeg)) fun r193 M194 => (if (r189 : Int32) = (r193 : Int32) then (lp_law n M194 xs L (z + 4)) else none)) else none)) else none) else (if ((xs (z : Int32).toNatClampNeg) &&& (31) : Int32) = 17 then (if vin ((z) + (1)) L then (if vin ((z) + (2)) L then (bnd2 (f_X10_account M (xs ((z) + (1) : Int32).toNatClampNeg) (xs ((z) + (2) : Int32).toNatClampNeg)) fun r200 M201 => (if vin ((z) + (1)) L then (if vin ((z) + (2)) L then (bnd2 (f_X11_account M201 (xs ((z) + (1) : Int32).toNatClampNeg) (xs ((z) + (2) : Int32).toNatClampNeg)) fun r205 M206 => (if (r200 : Int32) = (r205 : Int32) then (lp_law n M206 xs L (z + 4)) else none)) else none) else none)) else none) else none) else (if ((xs (z : Int32).toNatClampNeg) &&& (31) : Int32) = 18 then (if vin ((z) + (1)) L then (bnd2 (f_X10_count M (xs ((z) + (1) : Int32).toNatClampNeg)) fun r211 M212 => (if vin ((z) + (1)) L then (bnd2 (f_X11_count M212 (xs ((z) + (1) : Int32).toNatClampNeg)) fun r215 M216 => (if (r211 : Int32) = (r215 : Int32) then (lp_law n M216 xs L (z + 4)) else none)) else none)) else none) else (if ((xs (z : Int32).toNatClampNeg) &&& (31) : Int32) = 19 then (bnd2 (f_X10_undo M ) fun r220 M221 => (bnd2 (f_X11_undo M221 ) fun r223 M224 => (if (r220 : Int32) = (r223 : Int32) then (lp_law n M224 xs L (z + 4)) else none))) else (if ((xs (z : Int32).toNatClampNeg) &&& (31) : Int32) = 20 then (if vin ((z) + (1)) L then (bnd2 (f_X10_type M (xs ((z) + (1) : Int32).toNatClampNeg)) fun r229 M230 => (if vin ((z) + (1)) L then (bnd2 (f_X11_type M230 (xs ((z) + (1) : Int32).toNatClampNeg)) fun r233 M234 => (if (r229 : Int32) = (r233 : Int32) then (lp_law n M234 xs L (z + 4)) else none)) else none)) else none) else (if ((xs (z : Int32).toNatClampNeg) &&& (31) : Int32) = 21 then (bnd2 (f_X10_clearText M ) fun r238 M239 => (bnd2 (f_X11_clearText M239 ) fun r241 M242 => (if (r238 : Int32) = (r241 : Int32) then (lp_law n M242 xs L (z + 4)) else none))) else (if ((xs (z : Int32).toNatClampNeg) &&& (31) : Int32) = 22 then (if vin ((z) + (1)) L then (bnd2 (f_X10_fault M (xs ((z) + (1) : Int32).toNatClampNeg)) fun r247 M248 => (if vin ((z) + (1)) L then (bnd2 (f_X11_fault M248 (xs ((z) + (1) : Int32).toNatClampNeg)) fun r251 M252 => (if (r247 : Int32) = (r251 : Int32) then (lp_law n M252 xs L (z + 4)) else none)) else none)) else none) else (if ((xs (z : Int32).toNatClampNeg) &&& (31) : Int32) = 23 then (if vin ((z) + (1)) L then (bnd2 (f_X10_frame M (xs ((z) + (1) : Int32).toNatClampNeg)) fun r257 M258 => (if vin ((z) + (1)) L then (bnd2 (f_X11_frame M258 (xs ((z) + (1) : Int32).toNatClampNeg)) fun r261 M262 => (if (r257 : Int32) = (r261 : Int32) then (lp_law n M262 xs L (z + 4)) else none)) else none)) else none) else (lp_law n M xs L (z + 4)))))))))))))))))))))))))) else none))
set_option maxHeartbeats 8000000 in
set_option maxRecDepth 100000 in
theorem t_law (l : Launch) (g : GD) {p : Program} {e : Env} {s : State} {m : MethodId} {av : Array Value} {below : List Frame} {meth : Method} {c : Code} {Q : State → Prop} {cells slots sb L : Nat} {xs : Nat → Int32} (C : CX p s m av c cL_law 4 RL g) (hX : va_X sb L xs s s.heap) (hbl : sb < s.heap.size) (hbA : ¬ AA g sb) (hc1 : cells ≤ room_1.cells) (hc2 : slots ≤ room_1.slots) (kx : ∀ (H : Heap) (locs : List Loc) (ls : Array Slot), sS g s H locs → W p l e room_1 s m av below meth c H locs cells slots Q (F0 m 813 ls [.int 1])) (n : Nat) : ∀ (M : MM) (z : Int32), lp_law n M xs L z = some () → ∀ (H : Heap) (locs : List Loc), Wd g M H → sS g s H locs → ∀ ls : Array Slot, lv_has ls 4 [(0, .ref sb), (1, rf g (0)), (2, rf g (1697)), (3, .int (z))] → W p l e room_1 s m av below meth c H locs cells slots Q (F0 m 18 ls []) := by
  have hx := C.1
  have hb := C.2.1
  have hts := C.2.2.2.2.1
  have h05 : (0 : Nat) < 5 := by decide
  induction n with
  | zero => intro M z h; cases h
  | succ n ih =>
    intro M z h H locs hW hS ls hl
    unfold lp_law at h
    try dsimp only at h
    refine lv_iload_n hx hb dL_law_18 rfl (lv_at hl 3 rfl) ?_
    refine lv_aload_n hx hb dL_law_19 rfl (lv_at hl 0 rfl) ?_
    refine va_slen hx hb hX hbl hbA hS dL_law_20 ?_
    refine lv_iconst (v := 4) hx hb dL_law_21 (by decide) ?_
    refine lv_isub hx hb dL_law_22 ?_
    refine lv_icmp_gt (tgt := 812) hx hb dL_law_23 (by decide) (fun c1 => ?_) (fun c1 => ?_)
    · rw [if_pos c1] at h
      refine lv_iconst (v := 1) hx hb dL_law_812 (by decide) ?_
      exact kx _ _ ls hS
    · rw [if_neg c1] at h
      refine lv_aload_n hx hb dL_law_26 rfl (lv_at hl 0 rfl) ?_
      refine lv_iload_n hx hb dL_law_27 rfl (lv_at hl 3 rfl) ?_
      have s2 : vin (z) L := Classical.byContradiction fun q9 => by rw [if_neg q9] at h; cases h
      rw [if_pos s2] at h
      refine va_sld hx hb hX hbl hbA hS s2 dL_law_28 ?_
      refine lv_bipush (v := 31) hx hb dL_law_29 (by decide) ?_
      refine lv_iand hx hb dL_law_31 ?_
      by_cases c3 : ((xs (z : Int32).toNatClampNeg) &&& (31) : Int32) = 0
      · rw [if_pos c3] at h
        refine lv_tableIn (off := 112) (tgt := 144) hx hb dL_law_32 (by rw [c3]; decide) (by rw [c3]; decide) (by rw [c3]; rfl) (by decide) ?_
        refine lv_aload_n hx hb dL_law_144 rfl (lv_at hl 1 rfl) ?_
        refine lv_aload_n hx hb dL_law_145 rfl (lv_at hl 0 rfl) ?_
        refine lv_iload_n hx hb dL_law_146 rfl (lv_at hl 3 rfl) ?_
        refine lv_iconst (v := 1) hx hb dL_law_147 (by decide) ?_
        refine lv_iadd hx hb dL_law_148 ?_
        have s4 : vin ((z) + (1)) L := Classical.byContradiction fun q9 => by rw [if_neg q9] at h; cases h
        rw [if_pos s4] at h
        refine va_sld hx hb hX hbl hbA hS s4 dL_law_149 ?_
        refine lv_aload_n hx hb dL_law_150 rfl (lv_at hl 0 rfl) ?_
        refine lv_iload_n hx hb dL_law_151 rfl (lv_at hl 3 rfl) ?_
        refine lv_iconst (v := 2) hx hb dL_law_152 (by decide) ?_
        refine lv_iadd hx hb dL_law_153 ?_
        have s5 : vin ((z) + (2)) L := Classical.byContradiction fun q9 => by rw [if_neg q9] at h; cases h
        rw [if_pos s5] at h
        refine va_sld hx hb hX hbl hbA hS s5 dL_law_154 ?_
        obtain ⟨r6, M7, h8, h⟩ := bind2 h
        refine cBack C.2.2.2.2.2.2.2.2 (runV (As := [.int (xs ((z) + (1) : Int32).toNatClampNeg), .int (xs ((z) + (2) : Int32).toNatClampNeg)]) (rest := []) C hW hS (c_X10_buy l g M (xs ((z) + (1) : Int32).toNatClampNeg) (xs ((z) + (2) : Int32).toNatClampNeg) _ _ h8) kV_X10_buy ml_L_13 (by decide) tm_BF rfl rfl rfl hl.1 rfl (Nat.le_of_ble_eq_true rfl) ⟨Nat.le_of_ble_eq_true rfl, Nat.le_of_ble_eq_true rfl⟩ ⟨hc1, hc2⟩ dL_law_155) hS (fun v0 w0 H locs hp hW hS => ?_)
        obtain ⟨rfl, rfl⟩ := hp
        refine lv_aload_n hx hb dL_law_158 rfl (lv_at hl 2 rfl) ?_
        refine lv_aload_n hx hb dL_law_159 rfl (lv_at hl 0 rfl) ?_
        refine lv_iload_n hx hb dL_law_160 rfl (lv_at hl 3 rfl) ?_
        refine lv_iconst (v := 1) hx hb dL_law_161 (by decide) ?_
        refine lv_iadd hx hb dL_law_162 ?_
        have s9 : vin ((z) + (1)) L := Classical.byContradiction fun q9 => by rw [if_neg q9] at h; cases h
        rw [if_pos s9] at h
        refine va_sld hx hb hX hbl hbA hS s9 dL_law_163 ?_
        refine lv_aload_n hx hb dL_law_164 rfl (lv_at hl 0 rfl) ?_
        refine lv_iload_n hx hb dL_law_165 rfl (lv_at hl 3 rfl) ?_
        refine lv_iconst (v := 2) hx hb dL_law_166 (by decide) ?_
        refine lv_iadd hx hb dL_law_167 ?_
        have s10 : vin ((z) + (2)) L := Classical.byContradiction fun q9 => by rw [if_neg q9] at h; cases h
        rw [if_pos s10] at h
        refine va_sld hx hb hX hbl hbA hS s10 dL_law_168 ?_
        obtain ⟨r11, M12, h13, h⟩ := bind2 h
        refine cBack C.2.2.2.2.2.2.2.2 (runV (As := [.int (xs ((z) + (1) : Int32).toNatClampNeg), .int (xs ((z) + (2) : Int32).toNatClampNeg)]) (rest := [.int (r6)]) C hW hS (c_X11_buy l g M7 (xs ((z) + (1) : Int32).toNatClampNeg) (xs ((z) + (2) : Int32).toNatClampNeg) _ _ h13) kV_X11_buy ml_L_17 (by decide) tm_Model rfl rfl rfl hl.1 rfl (Nat.le_of_ble_eq_true rfl) ⟨Nat.le_of_ble_eq_true rfl, Nat.le_of_ble_eq_true rfl⟩ ⟨hc1, hc2⟩ dL_law_169) hS (fun v0 w0 H locs hp hW hS => ?_)
        obtain ⟨rfl, rfl⟩ := hp
        refine lv_icmp_eq (tgt := 806) hx hb dL_law_172 (by decide) (fun c14 => ?_) (fun c14 => ?_)
        · rw [if_pos c14] at h
          refine lv_iinc (v := z + 4) (lv' := [(3, .int (z + 4)), (0, .ref sb), (1, rf g (0)), (2, rf g (1697))]) hx hb dL_law_806 hl (k := 3) rfl rfl (by decide) rfl (fun ls hl => ?_)
          refine lv_goto (tgt := 18) hx hb dL_law_809 (by decide) ?_
          exact ih M12 (z + 4) h _ _ hW hS ls (lv_sub hl [1, 2, 3, 0] rfl)
        · rw [if_neg c14] at h
          refine lv_iconst (v := 0) hx hb dL_law_175 (by decide) ?_
          cases h
      rw [if_neg c3] at h
      by_cases c15 : ((xs (z : Int32).toNatClampNeg) &&& (31) : Int32) = 1
      · rw [if_pos c15] at h
        refine lv_tableIn (off := 145) (tgt := 177) hx hb dL_law_32 (by rw [c15]; decide) (by rw [c15]; decide) (by rw [c15]; rfl) (by decide) ?_
        refine lv_aload_n hx hb dL_law_177 rfl (lv_at hl 1 rfl) ?_
        refine lv_aload_n hx hb dL_law_178 rfl (lv_at hl 0 rfl) ?_
        refine lv_iload_n hx hb dL_law_179 rfl (lv_at hl 3 rfl) ?_
        refine lv_iconst (v := 1) hx hb dL_law_180 (by decide) ?_
        refine lv_iadd hx hb dL_law_181 ?_
        have s16 : vin ((z) + (1)) L := Classical.byContradiction fun q9 => by rw [if_neg q9] at h; cases h
        rw [if_pos s16] at h
        refine va_sld hx hb hX hbl hbA hS s16 dL_law_182 ?_
        refine lv_aload_n hx hb dL_law_183 rfl (lv_at hl 0 rfl) ?_
        refine lv_iload_n hx hb dL_law_184 rfl (lv_at hl 3 rfl) ?_
        refine lv_iconst (v := 2) hx hb dL_law_185 (by decide) ?_
        refine lv_iadd hx hb dL_law_186 ?_
        have s17 : vin ((z) + (2)) L := Classical.byContradiction fun q9 => by rw [if_neg q9] at h; cases h
        rw [if_pos s17] at h
        refine va_sld hx hb hX hbl hbA hS s17 dL_law_187 ?_
        obtain ⟨r18, M19, h20, h⟩ := bind2 h
        refine cBack C.2.2.2.2.2.2.2.2 (runV (As := [.int (xs ((z) + (1) : Int32).toNatClampNeg), .int (xs ((z) + (2) : Int32).toNatClampNeg)]) (rest := []) C hW hS (c_X10_charge l g M (xs ((z) + (1) : Int32).toNatClampNeg) (xs ((z) + (2) : Int32).toNatClampNeg) _ _ h20) kV_X10_charge ml_L_18 (by decide) tm_BF rfl rfl rfl hl.1 rfl (Nat.le_of_ble_eq_true rfl) ⟨Nat.le_of_ble_eq_true rfl, Nat.le_of_ble_eq_true rfl⟩ ⟨hc1, hc2⟩ dL_law_188) hS (fun v0 w0 H locs hp hW hS => ?_)
        obtain ⟨rfl, rfl⟩ := hp
        refine lv_aload_n hx hb dL_law_191 rfl (lv_at hl 2 rfl) ?_
        refine lv_aload_n hx hb dL_law_192 rfl (lv_at hl 0 rfl) ?_
        refine lv_iload_n hx hb dL_law_193 rfl (lv_at hl 3 rfl) ?_
        refine lv_iconst (v := 1) hx hb dL_law_194 (by decide) ?_
        refine lv_iadd hx hb dL_law_195 ?_
        have s21 : vin ((z) + (1)) L := Classical.byContradiction fun q9 => by rw [if_neg q9] at h; cases h
        rw [if_pos s21] at h
        refine va_sld hx hb hX hbl hbA hS s21 dL_law_196 ?_
        refine lv_aload_n hx hb dL_law_197 rfl (lv_at hl 0 rfl) ?_
        refine lv_iload_n hx hb dL_law_198 rfl (lv_at hl 3 rfl) ?_
        refine lv_iconst (v := 2) hx hb dL_law_199 (by decide) ?_
        refine lv_iadd hx hb dL_law_200 ?_
        have s22 : vin ((z) + (2)) L := Classical.byContradiction fun q9 => by rw [if_neg q9] at h; cases h
        rw [if_pos s22] at h
        refine va_sld hx hb hX hbl hbA hS s22 dL_law_201 ?_
        obtain ⟨r23, M24, h25, h⟩ := bind2 h
        refine cBack C.2.2.2.2.2.2.2.2 (runV (As := [.int (xs ((z) + (1) : Int32).toNatClampNeg), .int (xs ((z) + (2) : Int32).toNatClampNeg)]) (rest := [.int (r18)]) C hW hS (c_X11_charge l g M19 (xs ((z) + (1) : Int32).toNatClampNeg) (xs ((z) + (2) : Int32).toNatClampNeg) _ _ h25) kV_X11_charge ml_L_21 (by decide) tm_Model rfl rfl rfl hl.1 rfl (Nat.le_of_ble_eq_true rfl) ⟨Nat.le_of_ble_eq_true rfl, Nat.le_of_ble_eq_true rfl⟩ ⟨hc1, hc2⟩ dL_law_202) hS (fun v0 w0 H locs hp hW hS => ?_)
        obtain ⟨rfl, rfl⟩ := hp
        refine lv_icmp_eq (tgt := 806) hx hb dL_law_205 (by decide) (fun c26 => ?_) (fun c26 => ?_)
        · rw [if_pos c26] at h
          refine lv_iinc (v := z + 4) (lv' := [(3, .int (z + 4)), (0, .ref sb), (1, rf g (0)), (2, rf g (1697))]) hx hb dL_law_806 hl (k := 3) rfl rfl (by decide) rfl (fun ls hl => ?_)
          refine lv_goto (tgt := 18) hx hb dL_law_809 (by decide) ?_
          exact ih M24 (z + 4) h _ _ hW hS ls (lv_sub hl [1, 2, 3, 0] rfl)
        · rw [if_neg c26] at h
          refine lv_iconst (v := 0) hx hb dL_law_208 (by decide) ?_
          cases h
      rw [if_neg c15] at h
      by_cases c27 : ((xs (z : Int32).toNatClampNeg) &&& (31) : Int32) = 2
      · rw [if_pos c27] at h
        refine lv_tableIn (off := 178) (tgt := 210) hx hb dL_law_32 (by rw [c27]; decide) (by rw [c27]; decide) (by rw [c27]; rfl) (by decide) ?_
        refine lv_aload_n hx hb dL_law_210 rfl (lv_at hl 1 rfl) ?_
        refine lv_aload_n hx hb dL_law_211 rfl (lv_at hl 0 rfl) ?_
        refine lv_iload_n hx hb dL_law_212 rfl (lv_at hl 3 rfl) ?_
        refine lv_iconst (v := 1) hx hb dL_law_213 (by decide) ?_
        refine lv_iadd hx hb dL_law_214 ?_
        have s28 : vin ((z) + (1)) L := Classical.byContradiction fun q9 => by rw [if_neg q9] at h; cases h
        rw [if_pos s28] at h
        refine va_sld hx hb hX hbl hbA hS s28 dL_law_215 ?_
        obtain ⟨r29, M30, h31, h⟩ := bind2 h
        refine cBack C.2.2.2.2.2.2.2.2 (runV (As := [.int (xs ((z) + (1) : Int32).toNatClampNeg)]) (rest := []) C hW hS (c_X10_scrap l g M (xs ((z) + (1) : Int32).toNatClampNeg) _ _ h31) kV_X10_scrap ml_L_22 (by decide) tm_BF rfl rfl rfl hl.1 rfl (Nat.le_of_ble_eq_true rfl) ⟨Nat.le_of_ble_eq_true rfl, Nat.le_of_ble_eq_true rfl⟩ ⟨hc1, hc2⟩ dL_law_216) hS (fun v0 w0 H locs hp hW hS => ?_)
        obtain ⟨rfl, rfl⟩ := hp
        refine lv_aload_n hx hb dL_law_219 rfl (lv_at hl 2 rfl) ?_
        refine lv_aload_n hx hb dL_law_220 rfl (lv_at hl 0 rfl) ?_
        refine lv_iload_n hx hb dL_law_221 rfl (lv_at hl 3 rfl) ?_
        refine lv_iconst (v := 1) hx hb dL_law_222 (by decide) ?_
        refine lv_iadd hx hb dL_law_223 ?_
        have s32 : vin ((z) + (1)) L := Classical.byContradiction fun q9 => by rw [if_neg q9] at h; cases h
        rw [if_pos s32] at h
        refine va_sld hx hb hX hbl hbA hS s32 dL_law_224 ?_
        obtain ⟨r33, M34, h35, h⟩ := bind2 h
        refine cBack C.2.2.2.2.2.2.2.2 (runV (As := [.int (xs ((z) + (1) : Int32).toNatClampNeg)]) (rest := [.int (r29)]) C hW hS (c_X11_scrap l g M30 (xs ((z) + (1) : Int32).toNatClampNeg) _ _ h35) kV_X11_scrap ml_L_26 (by decide) tm_Model rfl rfl rfl hl.1 rfl (Nat.le_of_ble_eq_true rfl) ⟨Nat.le_of_ble_eq_true rfl, Nat.le_of_ble_eq_true rfl⟩ ⟨hc1, hc2⟩ dL_law_225) hS (fun v0 w0 H locs hp hW hS => ?_)
        obtain ⟨rfl, rfl⟩ := hp
        refine lv_icmp_eq (tgt := 806) hx hb dL_law_228 (by decide) (fun c36 => ?_) (fun c36 => ?_)
        · rw [if_pos c36] at h
          refine lv_iinc (v := z + 4) (lv' := [(3, .int (z + 4)), (0, .ref sb), (1, rf g (0)), (2, rf g (1697))]) hx hb dL_law_806 hl (k := 3) rfl rfl (by decide) rfl (fun ls hl => ?_)
          refine lv_goto (tgt := 18) hx hb dL_law_809 (by decide) ?_
          exact ih M34 (z + 4) h _ _ hW hS ls (lv_sub hl [1, 2, 3, 0] rfl)
        · rw [if_neg c36] at h
          refine lv_iconst (v := 0) hx hb dL_law_231 (by decide) ?_
          cases h
      rw [if_neg c27] at h
      by_cases c37 : ((xs (z : Int32).toNatClampNeg) &&& (31) : Int32) = 3
      · rw [if_pos c37] at h
        refine lv_tableIn (off := 201) (tgt := 233) hx hb dL_law_32 (by rw [c37]; decide) (by rw [c37]; decide) (by rw [c37]; rfl) (by decide) ?_
        refine lv_aload_n hx hb dL_law_233 rfl (lv_at hl 1 rfl) ?_
        refine lv_aload_n hx hb dL_law_234 rfl (lv_at hl 0 rfl) ?_
        refine lv_iload_n hx hb dL_law_235 rfl (lv_at hl 3 rfl) ?_
        refine lv_iconst (v := 1) hx hb dL_law_236 (by decide) ?_
        refine lv_iadd hx hb dL_law_237 ?_
        have s38 : vin ((z) + (1)) L := Classical.byContradiction fun q9 => by rw [if_neg q9] at h; cases h
        rw [if_pos s38] at h
        refine va_sld hx hb hX hbl hbA hS s38 dL_law_238 ?_
        refine lv_aload_n hx hb dL_law_239 rfl (lv_at hl 0 rfl) ?_
        refine lv_iload_n hx hb dL_law_240 rfl (lv_at hl 3 rfl) ?_
        refine lv_iconst (v := 2) hx hb dL_law_241 (by decide) ?_
        refine lv_iadd hx hb dL_law_242 ?_
        have s39 : vin ((z) + (2)) L := Classical.byContradiction fun q9 => by rw [if_neg q9] at h; cases h
        rw [if_pos s39] at h
        refine va_sld hx hb hX hbl hbA hS s39 dL_law_243 ?_
        obtain ⟨r40, M41, h42, h⟩ := bind2 h
        refine cBack C.2.2.2.2.2.2.2.2 (runV (As := [.int (xs ((z) + (1) : Int32).toNatClampNeg), .int (xs ((z) + (2) : Int32).toNatClampNeg)]) (rest := []) C hW hS (c_X10_lot l g M (xs ((z) + (1) : Int32).toNatClampNeg) (xs ((z) + (2) : Int32).toNatClampNeg) _ _ h42) kV_X10_lot ml_L_27 (by decide) tm_BF rfl rfl rfl hl.1 rfl (Nat.le_of_ble_eq_true rfl) ⟨Nat.le_of_ble_eq_true rfl, Nat.le_of_ble_eq_true rfl⟩ ⟨hc1, hc2⟩ dL_law_244) hS (fun v0 w0 H locs hp hW hS => ?_)
        obtain ⟨rfl, rfl⟩ := hp
        refine lv_aload_n hx hb dL_law_247 rfl (lv_at hl 2 rfl) ?_
        refine lv_aload_n hx hb dL_law_248 rfl (lv_at hl 0 rfl) ?_
        refine lv_iload_n hx hb dL_law_249 rfl (lv_at hl 3 rfl) ?_
        refine lv_iconst (v := 1) hx hb dL_law_250 (by decide) ?_
        refine lv_iadd hx hb dL_law_251 ?_
        have s43 : vin ((z) + (1)) L := Classical.byContradiction fun q9 => by rw [if_neg q9] at h; cases h
        rw [if_pos s43] at h
        refine va_sld hx hb hX hbl hbA hS s43 dL_law_252 ?_
        refine lv_aload_n hx hb dL_law_253 rfl (lv_at hl 0 rfl) ?_
        refine lv_iload_n hx hb dL_law_254 rfl (lv_at hl 3 rfl) ?_
        refine lv_iconst (v := 2) hx hb dL_law_255 (by decide) ?_
        refine lv_iadd hx hb dL_law_256 ?_
        have s44 : vin ((z) + (2)) L := Classical.byContradiction fun q9 => by rw [if_neg q9] at h; cases h
        rw [if_pos s44] at h
        refine va_sld hx hb hX hbl hbA hS s44 dL_law_257 ?_
        obtain ⟨r45, M46, h47, h⟩ := bind2 h
        refine cBack C.2.2.2.2.2.2.2.2 (runV (As := [.int (xs ((z) + (1) : Int32).toNatClampNeg), .int (xs ((z) + (2) : Int32).toNatClampNeg)]) (rest := [.int (r40)]) C hW hS (c_X11_lot l g M41 (xs ((z) + (1) : Int32).toNatClampNeg) (xs ((z) + (2) : Int32).toNatClampNeg) _ _ h47) kV_X11_lot ml_L_30 (by decide) tm_Model rfl rfl rfl hl.1 rfl (Nat.le_of_ble_eq_true rfl) ⟨Nat.le_of_ble_eq_true rfl, Nat.le_of_ble_eq_true rfl⟩ ⟨hc1, hc2⟩ dL_law_258) hS (fun v0 w0 H locs hp hW hS => ?_)
        obtain ⟨rfl, rfl⟩ := hp
        refine lv_icmp_eq (tgt := 806) hx hb dL_law_261 (by decide) (fun c48 => ?_) (fun c48 => ?_)
        · rw [if_pos c48] at h
          refine lv_iinc (v := z + 4) (lv' := [(3, .int (z + 4)), (0, .ref sb), (1, rf g (0)), (2, rf g (1697))]) hx hb dL_law_806 hl (k := 3) rfl rfl (by decide) rfl (fun ls hl => ?_)
          refine lv_goto (tgt := 18) hx hb dL_law_809 (by decide) ?_
          exact ih M46 (z + 4) h _ _ hW hS ls (lv_sub hl [1, 2, 3, 0] rfl)
        · rw [if_neg c48] at h
          refine lv_iconst (v := 0) hx hb dL_law_264 (by decide) ?_
          cases h
      rw [if_neg c37] at h
      by_cases c49 : ((xs (z : Int32).toNatClampNeg) &&& (31) : Int32) = 4
      · rw [if_pos c49] at h
        refine lv_tableIn (off := 234) (tgt := 266) hx hb dL_law_32 (by rw [c49]; decide) (by rw [c49]; decide) (by rw [c49]; rfl) (by decide) ?_
        refine lv_aload_n hx hb dL_law_266 rfl (lv_at hl 1 rfl) ?_
        refine lv_aload_n hx hb dL_law_267 rfl (lv_at hl 0 rfl) ?_
        refine lv_iload_n hx hb dL_law_268 rfl (lv_at hl 3 rfl) ?_
        refine lv_iconst (v := 1) hx hb dL_law_269 (by decide) ?_
        refine lv_iadd hx hb dL_law_270 ?_
        have s50 : vin ((z) + (1)) L := Classical.byContradiction fun q9 => by rw [if_neg q9] at h; cases h
        rw [if_pos s50] at h
        refine va_sld hx hb hX hbl hbA hS s50 dL_law_271 ?_
        obtain ⟨r51, M52, h53, h⟩ := bind2 h
        refine cBack C.2.2.2.2.2.2.2.2 (runV (As := [.int (xs ((z) + (1) : Int32).toNatClampNeg)]) (rest := []) C hW hS (c_X10_melt l g M (xs ((z) + (1) : Int32).toNatClampNeg) _ _ h53) kV_X10_melt ml_L_31 (by decide) tm_BF rfl rfl rfl hl.1 rfl (Nat.le_of_ble_eq_true rfl) ⟨Nat.le_of_ble_eq_true rfl, Nat.le_of_ble_eq_true rfl⟩ ⟨hc1, hc2⟩ dL_law_272) hS (fun v0 w0 H locs hp hW hS => ?_)
        obtain ⟨rfl, rfl⟩ := hp
        refine lv_aload_n hx hb dL_law_275 rfl (lv_at hl 2 rfl) ?_
        refine lv_aload_n hx hb dL_law_276 rfl (lv_at hl 0 rfl) ?_
        refine lv_iload_n hx hb dL_law_277 rfl (lv_at hl 3 rfl) ?_
        refine lv_iconst (v := 1) hx hb dL_law_278 (by decide) ?_
        refine lv_iadd hx hb dL_law_279 ?_
        have s54 : vin ((z) + (1)) L := Classical.byContradiction fun q9 => by rw [if_neg q9] at h; cases h
        rw [if_pos s54] at h
        refine va_sld hx hb hX hbl hbA hS s54 dL_law_280 ?_
        obtain ⟨r55, M56, h57, h⟩ := bind2 h
        refine cBack C.2.2.2.2.2.2.2.2 (runV (As := [.int (xs ((z) + (1) : Int32).toNatClampNeg)]) (rest := [.int (r51)]) C hW hS (c_X11_melt l g M52 (xs ((z) + (1) : Int32).toNatClampNeg) _ _ h57) kV_X11_melt ml_L_34 (by decide) tm_Model rfl rfl rfl hl.1 rfl (Nat.le_of_ble_eq_true rfl) ⟨Nat.le_of_ble_eq_true rfl, Nat.le_of_ble_eq_true rfl⟩ ⟨hc1, hc2⟩ dL_law_281) hS (fun v0 w0 H locs hp hW hS => ?_)
        obtain ⟨rfl, rfl⟩ := hp
        refine lv_icmp_eq (tgt := 806) hx hb dL_law_284 (by decide) (fun c58 => ?_) (fun c58 => ?_)
        · rw [if_pos c58] at h
          refine lv_iinc (v := z + 4) (lv' := [(3, .int (z + 4)), (0, .ref sb), (1, rf g (0)), (2, rf g (1697))]) hx hb dL_law_806 hl (k := 3) rfl rfl (by decide) rfl (fun ls hl => ?_)
          refine lv_goto (tgt := 18) hx hb dL_law_809 (by decide) ?_
          exact ih M56 (z + 4) h _ _ hW hS ls (lv_sub hl [1, 2, 3, 0] rfl)
        · rw [if_neg c58] at h
          refine lv_iconst (v := 0) hx hb dL_law_287 (by decide) ?_
          cases h
      rw [if_neg c49] at h
      by_cases c59 : ((xs (z : Int32).toNatClampNeg) &&& (31) : Int32) = 5
      · rw [if_pos c59] at h
        refine lv_tableIn (off := 257) (tgt := 289) hx hb dL_law_32 (by rw [c59]; decide) (by rw [c59]; decide) (by rw [c59]; rfl) (by decide) ?_
        refine lv_aload_n hx hb dL_law_289 rfl (lv_at hl 1 rfl) ?_
        refine lv_aload_n hx hb dL_law_290 rfl (lv_at hl 0 rfl) ?_
        refine lv_iload_n hx hb dL_law_291 rfl (lv_at hl 3 rfl) ?_
        refine lv_iconst (v := 1) hx hb dL_law_292 (by decide) ?_
        refine lv_iadd hx hb dL_law_293 ?_
        have s60 : vin ((z) + (1)) L := Classical.byContradiction fun q9 => by rw [if_neg q9] at h; cases h
        rw [if_pos s60] at h
        refine va_sld hx hb hX hbl hbA hS s60 dL_law_294 ?_
        refine lv_aload_n hx hb dL_law_295 rfl (lv_at hl 0 rfl) ?_
        refine lv_iload_n hx hb dL_law_296 rfl (lv_at hl 3 rfl) ?_
        refine lv_iconst (v := 2) hx hb dL_law_297 (by decide) ?_
        refine lv_iadd hx hb dL_law_298 ?_
        have s61 : vin ((z) + (2)) L := Classical.byContradiction fun q9 => by rw [if_neg q9] at h; cases h
        rw [if_pos s61] at h
        refine va_sld hx hb hX hbl hbA hS s61 dL_law_299 ?_
        obtain ⟨r62, M63, h64, h⟩ := bind2 h
        refine cBack C.2.2.2.2.2.2.2.2 (runV (As := [.int (xs ((z) + (1) : Int32).toNatClampNeg), .int (xs ((z) + (2) : Int32).toNatClampNeg)]) (rest := []) C hW hS (c_X10_set l g M (xs ((z) + (1) : Int32).toNatClampNeg) (xs ((z) + (2) : Int32).toNatClampNeg) _ _ h64) kV_X10_set ml_L_35 (by decide) tm_BF rfl rfl rfl hl.1 rfl (Nat.le_of_ble_eq_true rfl) ⟨Nat.le_of_ble_eq_true rfl, Nat.le_of_ble_eq_true rfl⟩ ⟨hc1, hc2⟩ dL_law_300) hS (fun v0 w0 H locs hp hW hS => ?_)
        obtain ⟨rfl, rfl⟩ := hp
        refine lv_aload_n hx hb dL_law_303 rfl (lv_at hl 2 rfl) ?_
        refine lv_aload_n hx hb dL_law_304 rfl (lv_at hl 0 rfl) ?_
        refine lv_iload_n hx hb dL_law_305 rfl (lv_at hl 3 rfl) ?_
        refine lv_iconst (v := 1) hx hb dL_law_306 (by decide) ?_
        refine lv_iadd hx hb dL_law_307 ?_
        have s65 : vin ((z) + (1)) L := Classical.byContradiction fun q9 => by rw [if_neg q9] at h; cases h
        rw [if_pos s65] at h
        refine va_sld hx hb hX hbl hbA hS s65 dL_law_308 ?_
        refine lv_aload_n hx hb dL_law_309 rfl (lv_at hl 0 rfl) ?_
        refine lv_iload_n hx hb dL_law_310 rfl (lv_at hl 3 rfl) ?_
        refine lv_iconst (v := 2) hx hb dL_law_311 (by decide) ?_
        refine lv_iadd hx hb dL_law_312 ?_
        have s66 : vin ((z) + (2)) L := Classical.byContradiction fun q9 => by rw [if_neg q9] at h; cases h
        rw [if_pos s66] at h
        refine va_sld hx hb hX hbl hbA hS s66 dL_law_313 ?_
        obtain ⟨r67, M68, h69, h⟩ := bind2 h
        refine cBack C.2.2.2.2.2.2.2.2 (runV (As := [.int (xs ((z) + (1) : Int32).toNatClampNeg), .int (xs ((z) + (2) : Int32).toNatClampNeg)]) (rest := [.int (r62)]) C hW hS (c_X11_set l g M63 (xs ((z) + (1) : Int32).toNatClampNeg) (xs ((z) + (2) : Int32).toNatClampNeg) _ _ h69) kV_X11_set ml_L_38 (by decide) tm_Model rfl rfl rfl hl.1 rfl (Nat.le_of_ble_eq_true rfl) ⟨Nat.le_of_ble_eq_true rfl, Nat.le_of_ble_eq_true rfl⟩ ⟨hc1, hc2⟩ dL_law_314) hS (fun v0 w0 H locs hp hW hS => ?_)
        obtain ⟨rfl, rfl⟩ := hp
        refine lv_icmp_eq (tgt := 806) hx hb dL_law_317 (by decide) (fun c70 => ?_) (fun c70 => ?_)
        · rw [if_pos c70] at h
          refine lv_iinc (v := z + 4) (lv' := [(3, .int (z + 4)), (0, .ref sb), (1, rf g (0)), (2, rf g (1697))]) hx hb dL_law_806 hl (k := 3) rfl rfl (by decide) rfl (fun ls hl => ?_)
          refine lv_goto (tgt := 18) hx hb dL_law_809 (by decide) ?_
          exact ih M68 (z + 4) h _ _ hW hS ls (lv_sub hl [1, 2, 3, 0] rfl)
        · rw [if_neg c70] at h
          refine lv_iconst (v := 0) hx hb dL_law_320 (by decide) ?_
          cases h
      rw [if_neg c59] at h
      by_cases c71 : ((xs (z : Int32).toNatClampNeg) &&& (31) : Int32) = 6
      · rw [if_pos c71] at h
        refine lv_tableIn (off := 290) (tgt := 322) hx hb dL_law_32 (by rw [c71]; decide) (by rw [c71]; decide) (by rw [c71]; rfl) (by decide) ?_
        refine lv_aload_n hx hb dL_law_322 rfl (lv_at hl 1 rfl) ?_
        refine lv_aload_n hx hb dL_law_323 rfl (lv_at hl 0 rfl) ?_
        refine lv_iload_n hx hb dL_law_324 rfl (lv_at hl 3 rfl) ?_
        refine lv_iconst (v := 1) hx hb dL_law_325 (by decide) ?_
        refine lv_iadd hx hb dL_law_326 ?_
        have s72 : vin ((z) + (1)) L := Classical.byContradiction fun q9 => by rw [if_neg q9] at h; cases h
        rw [if_pos s72] at h
        refine va_sld hx hb hX hbl hbA hS s72 dL_law_327 ?_
        refine lv_aload_n hx hb dL_law_328 rfl (lv_at hl 0 rfl) ?_
        refine lv_iload_n hx hb dL_law_329 rfl (lv_at hl 3 rfl) ?_
        refine lv_iconst (v := 2) hx hb dL_law_330 (by decide) ?_
        refine lv_iadd hx hb dL_law_331 ?_
        have s73 : vin ((z) + (2)) L := Classical.byContradiction fun q9 => by rw [if_neg q9] at h; cases h
        rw [if_pos s73] at h
        refine va_sld hx hb hX hbl hbA hS s73 dL_law_332 ?_
        obtain ⟨r74, M75, h76, h⟩ := bind2 h
        refine cBack C.2.2.2.2.2.2.2.2 (runV (As := [.int (xs ((z) + (1) : Int32).toNatClampNeg), .int (xs ((z) + (2) : Int32).toNatClampNeg)]) (rest := []) C hW hS (c_X10_pour l g M (xs ((z) + (1) : Int32).toNatClampNeg) (xs ((z) + (2) : Int32).toNatClampNeg) _ _ h76) kV_X10_pour ml_L_39 (by decide) tm_BF rfl rfl rfl hl.1 rfl (Nat.le_of_ble_eq_true rfl) ⟨Nat.le_of_ble_eq_true rfl, Nat.le_of_ble_eq_true rfl⟩ ⟨hc1, hc2⟩ dL_law_333) hS (fun v0 w0 H locs hp hW hS => ?_)
        obtain ⟨rfl, rfl⟩ := hp
        refine lv_aload_n hx hb dL_law_336 rfl (lv_at hl 2 rfl) ?_
        refine lv_aload_n hx hb dL_law_337 rfl (lv_at hl 0 rfl) ?_
        refine lv_iload_n hx hb dL_law_338 rfl (lv_at hl 3 rfl) ?_
        refine lv_iconst (v := 1) hx hb dL_law_339 (by decide) ?_
        refine lv_iadd hx hb dL_law_340 ?_
        have s77 : vin ((z) + (1)) L := Classical.byContradiction fun q9 => by rw [if_neg q9] at h; cases h
        rw [if_pos s77] at h
        refine va_sld hx hb hX hbl hbA hS s77 dL_law_341 ?_
        refine lv_aload_n hx hb dL_law_342 rfl (lv_at hl 0 rfl) ?_
        refine lv_iload_n hx hb dL_law_343 rfl (lv_at hl 3 rfl) ?_
        refine lv_iconst (v := 2) hx hb dL_law_344 (by decide) ?_
        refine lv_iadd hx hb dL_law_345 ?_
        have s78 : vin ((z) + (2)) L := Classical.byContradiction fun q9 => by rw [if_neg q9] at h; cases h
        rw [if_pos s78] at h
        refine va_sld hx hb hX hbl hbA hS s78 dL_law_346 ?_
        obtain ⟨r79, M80, h81, h⟩ := bind2 h
        refine cBack C.2.2.2.2.2.2.2.2 (runV (As := [.int (xs ((z) + (1) : Int32).toNatClampNeg), .int (xs ((z) + (2) : Int32).toNatClampNeg)]) (rest := [.int (r74)]) C hW hS (c_X11_pour l g M75 (xs ((z) + (1) : Int32).toNatClampNeg) (xs ((z) + (2) : Int32).toNatClampNeg) _ _ h81) kV_X11_pour ml_L_42 (by decide) tm_Model rfl rfl rfl hl.1 rfl (Nat.le_of_ble_eq_true rfl) ⟨Nat.le_of_ble_eq_true rfl, Nat.le_of_ble_eq_true rfl⟩ ⟨hc1, hc2⟩ dL_law_347) hS (fun v0 w0 H locs hp hW hS => ?_)
        obtain ⟨rfl, rfl⟩ := hp
        refine lv_icmp_eq (tgt := 806) hx hb dL_law_350 (by decide) (fun c82 => ?_) (fun c82 => ?_)
        · rw [if_pos c82] at h
          refine lv_iinc (v := z + 4) (lv' := [(3, .int (z + 4)), (0, .ref sb), (1, rf g (0)), (2, rf g (1697))]) hx hb dL_law_806 hl (k := 3) rfl rfl (by decide) rfl (fun ls hl => ?_)
          refine lv_goto (tgt := 18) hx hb dL_law_809 (by decide) ?_
          exact ih M80 (z + 4) h _ _ hW hS ls (lv_sub hl [1, 2, 3, 0] rfl)
        · rw [if_neg c82] at h
          refine lv_iconst (v := 0) hx hb dL_law_353 (by decide) ?_
          cases h
      rw [if_neg c71] at h
      by_cases c83 : ((xs (z : Int32).toNatClampNeg) &&& (31) : Int32) = 7
      · rw [if_pos c83] at h
        refine lv_tableIn (off := 323) (tgt := 355) hx hb dL_law_32 (by rw [c83]; decide) (by rw [c83]; decide) (by rw [c83]; rfl) (by decide) ?_
        refine lv_aload_n hx hb dL_law_355 rfl (lv_at hl 1 rfl) ?_
        refine lv_aload_n hx hb dL_law_356 rfl (lv_at hl 0 rfl) ?_
        refine lv_iload_n hx hb dL_law_357 rfl (lv_at hl 3 rfl) ?_
        refine lv_iconst (v := 1) hx hb dL_law_358 (by decide) ?_
        refine lv_iadd hx hb dL_law_359 ?_
        have s84 : vin ((z) + (1)) L := Classical.byContradiction fun q9 => by rw [if_neg q9] at h; cases h
        rw [if_pos s84] at h
        refine va_sld hx hb hX hbl hbA hS s84 dL_law_360 ?_
        refine lv_aload_n hx hb dL_law_361 rfl (lv_at hl 0 rfl) ?_
        refine lv_iload_n hx hb dL_law_362 rfl (lv_at hl 3 rfl) ?_
        refine lv_iconst (v := 2) hx hb dL_law_363 (by decide) ?_
        refine lv_iadd hx hb dL_law_364 ?_
        have s85 : vin ((z) + (2)) L := Classical.byContradiction fun q9 => by rw [if_neg q9] at h; cases h
        rw [if_pos s85] at h
        refine va_sld hx hb hX hbl hbA hS s85 dL_law_365 ?_
        obtain ⟨r86, M87, h88, h⟩ := bind2 h
        refine cBack C.2.2.2.2.2.2.2.2 (runV (As := [.int (xs ((z) + (1) : Int32).toNatClampNeg), .int (xs ((z) + (2) : Int32).toNatClampNeg)]) (rest := []) C hW hS (c_X10_tune l g M (xs ((z) + (1) : Int32).toNatClampNeg) (xs ((z) + (2) : Int32).toNatClampNeg) _ _ h88) kV_X10_tune ml_L_43 (by decide) tm_BF rfl rfl rfl hl.1 rfl (Nat.le_of_ble_eq_true rfl) ⟨Nat.le_of_ble_eq_true rfl, Nat.le_of_ble_eq_true rfl⟩ ⟨hc1, hc2⟩ dL_law_366) hS (fun v0 w0 H locs hp hW hS => ?_)
        obtain ⟨rfl, rfl⟩ := hp
        refine lv_aload_n hx hb dL_law_369 rfl (lv_at hl 2 rfl) ?_
        refine lv_aload_n hx hb dL_law_370 rfl (lv_at hl 0 rfl) ?_
        refine lv_iload_n hx hb dL_law_371 rfl (lv_at hl 3 rfl) ?_
        refine lv_iconst (v := 1) hx hb dL_law_372 (by decide) ?_
        refine lv_iadd hx hb dL_law_373 ?_
        have s89 : vin ((z) + (1)) L := Classical.byContradiction fun q9 => by rw [if_neg q9] at h; cases h
        rw [if_pos s89] at h
        refine va_sld hx hb hX hbl hbA hS s89 dL_law_374 ?_
        refine lv_aload_n hx hb dL_law_375 rfl (lv_at hl 0 rfl) ?_
        refine lv_iload_n hx hb dL_law_376 rfl (lv_at hl 3 rfl) ?_
        refine lv_iconst (v := 2) hx hb dL_law_377 (by decide) ?_
        refine lv_iadd hx hb dL_law_378 ?_
        have s90 : vin ((z) + (2)) L := Classical.byContradiction fun q9 => by rw [if_neg q9] at h; cases h
        rw [if_pos s90] at h
        refine va_sld hx hb hX hbl hbA hS s90 dL_law_379 ?_
        obtain ⟨r91, M92, h93, h⟩ := bind2 h
        refine cBack C.2.2.2.2.2.2.2.2 (runV (As := [.int (xs ((z) + (1) : Int32).toNatClampNeg), .int (xs ((z) + (2) : Int32).toNatClampNeg)]) (rest := [.int (r86)]) C hW hS (c_X11_tune l g M87 (xs ((z) + (1) : Int32).toNatClampNeg) (xs ((z) + (2) : Int32).toNatClampNeg) _ _ h93) kV_X11_tune ml_L_46 (by decide) tm_Model rfl rfl rfl hl.1 rfl (Nat.le_of_ble_eq_true rfl) ⟨Nat.le_of_ble_eq_true rfl, Nat.le_of_ble_eq_true rfl⟩ ⟨hc1, hc2⟩ dL_law_380) hS (fun v0 w0 H locs hp hW hS => ?_)
        obtain ⟨rfl, rfl⟩ := hp
        refine lv_icmp_eq (tgt := 806) hx hb dL_law_383 (by decide) (fun c94 => ?_) (fun c94 => ?_)
        · rw [if_pos c94] at h
          refine lv_iinc (v := z + 4) (lv' := [(3, .int (z + 4)), (0, .ref sb), (1, rf g (0)), (2, rf g (1697))]) hx hb dL_law_806 hl (k := 3) rfl rfl (by decide) rfl (fun ls hl => ?_)
          refine lv_goto (tgt := 18) hx hb dL_law_809 (by decide) ?_
          exact ih M92 (z + 4) h _ _ hW hS ls (lv_sub hl [1, 2, 3, 0] rfl)
        · rw [if_neg c94] at h
          refine lv_iconst (v := 0) hx hb dL_law_386 (by decide) ?_
          cases h
      rw [if_neg c83] at h
      by_cases c95 : ((xs (z : Int32).toNatClampNeg) &&& (31) : Int32) = 8
      · rw [if_pos c95] at h
        refine lv_tableIn (off := 356) (tgt := 388) hx hb dL_law_32 (by rw [c95]; decide) (by rw [c95]; decide) (by rw [c95]; rfl) (by decide) ?_
        refine lv_aload_n hx hb dL_law_388 rfl (lv_at hl 1 rfl) ?_
        refine lv_aload_n hx hb dL_law_389 rfl (lv_at hl 0 rfl) ?_
        refine lv_iload_n hx hb dL_law_390 rfl (lv_at hl 3 rfl) ?_
        refine lv_iconst (v := 1) hx hb dL_law_391 (by decide) ?_
        refine lv_iadd hx hb dL_law_392 ?_
        have s96 : vin ((z) + (1)) L := Classical.byContradiction fun q9 => by rw [if_neg q9] at h; cases h
        rw [if_pos s96] at h
        refine va_sld hx hb hX hbl hbA hS s96 dL_law_393 ?_
        obtain ⟨r97, M98, h99, h⟩ := bind2 h
        refine cBack C.2.2.2.2.2.2.2.2 (runV (As := [.int (xs ((z) + (1) : Int32).toNatClampNeg)]) (rest := []) C hW hS (c_X10_smash l g M (xs ((z) + (1) : Int32).toNatClampNeg) _ _ h99) kV_X10_smash ml_L_47 (by decide) tm_BF rfl rfl rfl hl.1 rfl (Nat.le_of_ble_eq_true rfl) ⟨Nat.le_of_ble_eq_true rfl, Nat.le_of_ble_eq_true rfl⟩ ⟨hc1, hc2⟩ dL_law_394) hS (fun v0 w0 H locs hp hW hS => ?_)
        obtain ⟨rfl, rfl⟩ := hp
        refine lv_aload_n hx hb dL_law_397 rfl (lv_at hl 2 rfl) ?_
        refine lv_aload_n hx hb dL_law_398 rfl (lv_at hl 0 rfl) ?_
        refine lv_iload_n hx hb dL_law_399 rfl (lv_at hl 3 rfl) ?_
        refine lv_iconst (v := 1) hx hb dL_law_400 (by decide) ?_
        refine lv_iadd hx hb dL_law_401 ?_
        have s100 : vin ((z) + (1)) L := Classical.byContradiction fun q9 => by rw [if_neg q9] at h; cases h
        rw [if_pos s100] at h
        refine va_sld hx hb hX hbl hbA hS s100 dL_law_402 ?_
        obtain ⟨r101, M102, h103, h⟩ := bind2 h
        refine cBack C.2.2.2.2.2.2.2.2 (runV (As := [.int (xs ((z) + (1) : Int32).toNatClampNeg)]) (rest := [.int (r97)]) C hW hS (c_X11_smash l g M98 (xs ((z) + (1) : Int32).toNatClampNeg) _ _ h103) kV_X11_smash ml_L_50 (by decide) tm_Model rfl rfl rfl hl.1 rfl (Nat.le_of_ble_eq_true rfl) ⟨Nat.le_of_ble_eq_true rfl, Nat.le_of_ble_eq_true rfl⟩ ⟨hc1, hc2⟩ dL_law_403) hS (fun v0 w0 H locs hp hW hS => ?_)
        obtain ⟨rfl, rfl⟩ := hp
        refine lv_icmp_eq (tgt := 806) hx hb dL_law_406 (by decide) (fun c104 => ?_) (fun c104 => ?_)
        · rw [if_pos c104] at h
          refine lv_iinc (v := z + 4) (lv' := [(3, .int (z + 4)), (0, .ref sb), (1, rf g (0)), (2, rf g (1697))]) hx hb dL_law_806 hl (k := 3) rfl rfl (by decide) rfl (fun ls hl => ?_)
          refine lv_goto (tgt := 18) hx hb dL_law_809 (by decide) ?_
          exact ih M102 (z + 4) h _ _ hW hS ls (lv_sub hl [1, 2, 3, 0] rfl)
        · rw [if_neg c104] at h
          refine lv_iconst (v := 0) hx hb dL_law_409 (by decide) ?_
          cases h
      rw [if_neg c95] at h
      by_cases c105 : ((xs (z : Int32).toNatClampNeg) &&& (31) : Int32) = 9
      · rw [if_pos c105] at h
        refine lv_tableIn (off := 379) (tgt := 411) hx hb dL_law_32 (by rw [c105]; decide) (by rw [c105]; decide) (by rw [c105]; rfl) (by decide) ?_
        refine lv_aload_n hx hb dL_law_411 rfl (lv_at hl 1 rfl) ?_
        refine lv_aload_n hx hb dL_law_412 rfl (lv_at hl 0 rfl) ?_
        refine lv_iload_n hx hb dL_law_413 rfl (lv_at hl 3 rfl) ?_
        refine lv_iconst (v := 1) hx hb dL_law_414 (by decide) ?_
        refine lv_iadd hx hb dL_law_415 ?_
        have s106 : vin ((z) + (1)) L := Classical.byContradiction fun q9 => by rw [if_neg q9] at h; cases h
        rw [if_pos s106] at h
        refine va_sld hx hb hX hbl hbA hS s106 dL_law_416 ?_
        refine lv_aload_n hx hb dL_law_417 rfl (lv_at hl 0 rfl) ?_
        refine lv_iload_n hx hb dL_law_418 rfl (lv_at hl 3 rfl) ?_
        refine lv_iconst (v := 2) hx hb dL_law_419 (by decide) ?_
        refine lv_iadd hx hb dL_law_420 ?_
        have s107 : vin ((z) + (2)) L := Classical.byContradiction fun q9 => by rw [if_neg q9] at h; cases h
        rw [if_pos s107] at h
        refine va_sld hx hb hX hbl hbA hS s107 dL_law_421 ?_
        obtain ⟨r108, M109, h110, h⟩ := bind2 h
        refine cBack C.2.2.2.2.2.2.2.2 (runV (As := [.int (xs ((z) + (1) : Int32).toNatClampNeg), .int (xs ((z) + (2) : Int32).toNatClampNeg)]) (rest := []) C hW hS (c_X10_bell l g M (xs ((z) + (1) : Int32).toNatClampNeg) (xs ((z) + (2) : Int32).toNatClampNeg) _ _ h110) kV_X10_bell ml_L_51 (by decide) tm_BF rfl rfl rfl hl.1 rfl (Nat.le_of_ble_eq_true rfl) ⟨Nat.le_of_ble_eq_true rfl, Nat.le_of_ble_eq_true rfl⟩ ⟨hc1, hc2⟩ dL_law_422) hS (fun v0 w0 H locs hp hW hS => ?_)
        obtain ⟨rfl, rfl⟩ := hp
        refine lv_aload_n hx hb dL_law_425 rfl (lv_at hl 2 rfl) ?_
        refine lv_aload_n hx hb dL_law_426 rfl (lv_at hl 0 rfl) ?_
        refine lv_iload_n hx hb dL_law_427 rfl (lv_at hl 3 rfl) ?_
        refine lv_iconst (v := 1) hx hb dL_law_428 (by decide) ?_
        refine lv_iadd hx hb dL_law_429 ?_
        have s111 : vin ((z) + (1)) L := Classical.byContradiction fun q9 => by rw [if_neg q9] at h; cases h
        rw [if_pos s111] at h
        refine va_sld hx hb hX hbl hbA hS s111 dL_law_430 ?_
        refine lv_aload_n hx hb dL_law_431 rfl (lv_at hl 0 rfl) ?_
        refine lv_iload_n hx hb dL_law_432 rfl (lv_at hl 3 rfl) ?_
        refine lv_iconst (v := 2) hx hb dL_law_433 (by decide) ?_
        refine lv_iadd hx hb dL_law_434 ?_
        have s112 : vin ((z) + (2)) L := Classical.byContradiction fun q9 => by rw [if_neg q9] at h; cases h
        rw [if_pos s112] at h
        refine va_sld hx hb hX hbl hbA hS s112 dL_law_435 ?_
        obtain ⟨r113, M114, h115, h⟩ := bind2 h
        refine cBack C.2.2.2.2.2.2.2.2 (runV (As := [.int (xs ((z) + (1) : Int32).toNatClampNeg), .int (xs ((z) + (2) : Int32).toNatClampNeg)]) (rest := [.int (r108)]) C hW hS (c_X11_bell l g M109 (xs ((z) + (1) : Int32).toNatClampNeg) (xs ((z) + (2) : Int32).toNatClampNeg) _ _ h115) kV_X11_bell ml_L_54 (by decide) tm_Model rfl rfl rfl hl.1 rfl (Nat.le_of_ble_eq_true rfl) ⟨Nat.le_of_ble_eq_true rfl, Nat.le_of_ble_eq_true rfl⟩ ⟨hc1, hc2⟩ dL_law_436) hS (fun v0 w0 H locs hp hW hS => ?_)
        obtain ⟨rfl, rfl⟩ := hp
        refine lv_icmp_eq (tgt := 806) hx hb dL_law_439 (by decide) (fun c116 => ?_) (fun c116 => ?_)
        · rw [if_pos c116] at h
          refine lv_iinc (v := z + 4) (lv' := [(3, .int (z + 4)), (0, .ref sb), (1, rf g (0)), (2, rf g (1697))]) hx hb dL_law_806 hl (k := 3) rfl rfl (by decide) rfl (fun ls hl => ?_)
          refine lv_goto (tgt := 18) hx hb dL_law_809 (by decide) ?_
          exact ih M114 (z + 4) h _ _ hW hS ls (lv_sub hl [1, 2, 3, 0] rfl)
        · rw [if_neg c116] at h
          refine lv_iconst (v := 0) hx hb dL_law_442 (by decide) ?_
          cases h
      rw [if_neg c105] at h
      by_cases c117 : ((xs (z : Int32).toNatClampNeg) &&& (31) : Int32) = 10
      · rw [if_pos c117] at h
        refine lv_tableIn (off := 412) (tgt := 444) hx hb dL_law_32 (by rw [c117]; decide) (by rw [c117]; decide) (by rw [c117]; rfl) (by decide) ?_
        refine lv_aload_n hx hb dL_law_444 rfl (lv_at hl 1 rfl) ?_
        refine lv_aload_n hx hb dL_law_445 rfl (lv_at hl 0 rfl) ?_
        refine lv_iload_n hx hb dL_law_446 rfl (lv_at hl 3 rfl) ?_
        refine lv_iconst (v := 1) hx hb dL_law_447 (by decide) ?_
        refine lv_iadd hx hb dL_law_448 ?_
        have s118 : vin ((z) + (1)) L := Classical.byContradiction fun q9 => by rw [if_neg q9] at h; cases h
        rw [if_pos s118] at h
        refine va_sld hx hb hX hbl hbA hS s118 dL_law_449 ?_
        refine lv_aload_n hx hb dL_law_450 rfl (lv_at hl 0 rfl) ?_
        refine lv_iload_n hx hb dL_law_451 rfl (lv_at hl 3 rfl) ?_
        refine lv_iconst (v := 2) hx hb dL_law_452 (by decide) ?_
        refine lv_iadd hx hb dL_law_453 ?_
        have s119 : vin ((z) + (2)) L := Classical.byContradiction fun q9 => by rw [if_neg q9] at h; cases h
        rw [if_pos s119] at h
        refine va_sld hx hb hX hbl hbA hS s119 dL_law_454 ?_
        refine lv_aload_n hx hb dL_law_455 rfl (lv_at hl 0 rfl) ?_
        refine lv_iload_n hx hb dL_law_456 rfl (lv_at hl 3 rfl) ?_
        refine lv_iconst (v := 3) hx hb dL_law_457 (by decide) ?_
        refine lv_iadd hx hb dL_law_458 ?_
        have s120 : vin ((z) + (3)) L := Classical.byContradiction fun q9 => by rw [if_neg q9] at h; cases h
        rw [if_pos s120] at h
        refine va_sld hx hb hX hbl hbA hS s120 dL_law_459 ?_
        obtain ⟨r121, M122, h123, h⟩ := bind2 h
        refine cBack C.2.2.2.2.2.2.2.2 (runV (As := [.int (xs ((z) + (1) : Int32).toNatClampNeg), .int (xs ((z) + (2) : Int32).toNatClampNeg), .int (xs ((z) + (3) : Int32).toNatClampNeg)]) (rest := []) C hW hS (c_X10_order l g M (xs ((z) + (1) : Int32).toNatClampNeg) (xs ((z) + (2) : Int32).toNatClampNeg) (xs ((z) + (3) : Int32).toNatClampNeg) _ _ h123) kV_X10_order ml_L_55 (by decide) tm_BF rfl rfl rfl hl.1 rfl (Nat.le_of_ble_eq_true rfl) ⟨Nat.le_of_ble_eq_true rfl, Nat.le_of_ble_eq_true rfl⟩ ⟨hc1, hc2⟩ dL_law_460) hS (fun v0 w0 H locs hp hW hS => ?_)
        obtain ⟨rfl, rfl⟩ := hp
        refine lv_aload_n hx hb dL_law_463 rfl (lv_at hl 2 rfl) ?_
        refine lv_aload_n hx hb dL_law_464 rfl (lv_at hl 0 rfl) ?_
        refine lv_iload_n hx hb dL_law_465 rfl (lv_at hl 3 rfl) ?_
        refine lv_iconst (v := 1) hx hb dL_law_466 (by decide) ?_
        refine lv_iadd hx hb dL_law_467 ?_
        have s124 : vin ((z) + (1)) L := Classical.byContradiction fun q9 => by rw [if_neg q9] at h; cases h
        rw [if_pos s124] at h
        refine va_sld hx hb hX hbl hbA hS s124 dL_law_468 ?_
        refine lv_aload_n hx hb dL_law_469 rfl (lv_at hl 0 rfl) ?_
        refine lv_iload_n hx hb dL_law_470 rfl (lv_at hl 3 rfl) ?_
        refine lv_iconst (v := 2) hx hb dL_law_471 (by decide) ?_
        refine lv_iadd hx hb dL_law_472 ?_
        have s125 : vin ((z) + (2)) L := Classical.byContradiction fun q9 => by rw [if_neg q9] at h; cases h
        rw [if_pos s125] at h
        refine va_sld hx hb hX hbl hbA hS s125 dL_law_473 ?_
        refine lv_aload_n hx hb dL_law_474 rfl (lv_at hl 0 rfl) ?_
        refine lv_iload_n hx hb dL_law_475 rfl (lv_at hl 3 rfl) ?_
        refine lv_iconst (v := 3) hx hb dL_law_476 (by decide) ?_
        refine lv_iadd hx hb dL_law_477 ?_
        have s126 : vin ((z) + (3)) L := Classical.byContradiction fun q9 => by rw [if_neg q9] at h; cases h
        rw [if_pos s126] at h
        refine va_sld hx hb hX hbl hbA hS s126 dL_law_478 ?_
        obtain ⟨r127, M128, h129, h⟩ := bind2 h
        refine cBack C.2.2.2.2.2.2.2.2 (runV (As := [.int (xs ((z) + (1) : Int32).toNatClampNeg), .int (xs ((z) + (2) : Int32).toNatClampNeg), .int (xs ((z) + (3) : Int32).toNatClampNeg)]) (rest := [.int (r121)]) C hW hS (c_X11_order l g M122 (xs ((z) + (1) : Int32).toNatClampNeg) (xs ((z) + (2) : Int32).toNatClampNeg) (xs ((z) + (3) : Int32).toNatClampNeg) _ _ h129) kV_X11_order ml_L_59 (by decide) tm_Model rfl rfl rfl hl.1 rfl (Nat.le_of_ble_eq_true rfl) ⟨Nat.le_of_ble_eq_true rfl, Nat.le_of_ble_eq_true rfl⟩ ⟨hc1, hc2⟩ dL_law_479) hS (fun v0 w0 H locs hp hW hS => ?_)
        obtain ⟨rfl, rfl⟩ := hp
        refine lv_icmp_eq (tgt := 806) hx hb dL_law_482 (by decide) (fun c130 => ?_) (fun c130 => ?_)
        · rw [if_pos c130] at h
          refine lv_iinc (v := z + 4) (lv' := [(3, .int (z + 4)), (0, .ref sb), (1, rf g (0)), (2, rf g (1697))]) hx hb dL_law_806 hl (k := 3) rfl rfl (by decide) rfl (fun ls hl => ?_)
          refine lv_goto (tgt := 18) hx hb dL_law_809 (by decide) ?_
          exact ih M128 (z + 4) h _ _ hW hS ls (lv_sub hl [1, 2, 3, 0] rfl)
        · rw [if_neg c130] at h
          refine lv_iconst (v := 0) hx hb dL_law_485 (by decide) ?_
          cases h
      rw [if_neg c117] at h
      by_cases c131 : ((xs (z : Int32).toNatClampNeg) &&& (31) : Int32) = 11
      · rw [if_pos c131] at h
        refine lv_tableIn (off := 455) (tgt := 487) hx hb dL_law_32 (by rw [c131]; decide) (by rw [c131]; decide) (by rw [c131]; rfl) (by decide) ?_
        refine lv_aload_n hx hb dL_law_487 rfl (lv_at hl 1 rfl) ?_
        refine lv_aload_n hx hb dL_law_488 rfl (lv_at hl 0 rfl) ?_
        refine lv_iload_n hx hb dL_law_489 rfl (lv_at hl 3 rfl) ?_
        refine lv_iconst (v := 1) hx hb dL_law_490 (by decide) ?_
        refine lv_iadd hx hb dL_law_491 ?_
        have s132 : vin ((z) + (1)) L := Classical.byContradiction fun q9 => by rw [if_neg q9] at h; cases h
        rw [if_pos s132] at h
        refine va_sld hx hb hX hbl hbA hS s132 dL_law_492 ?_
        obtain ⟨r133, M134, h135, h⟩ := bind2 h
        refine cBack C.2.2.2.2.2.2.2.2 (runV (As := [.int (xs ((z) + (1) : Int32).toNatClampNeg)]) (rest := []) C hW hS (c_X10_cancel l g M (xs ((z) + (1) : Int32).toNatClampNeg) _ _ h135) kV_X10_cancel ml_L_60 (by decide) tm_BF rfl rfl rfl hl.1 rfl (Nat.le_of_ble_eq_true rfl) ⟨Nat.le_of_ble_eq_true rfl, Nat.le_of_ble_eq_true rfl⟩ ⟨hc1, hc2⟩ dL_law_493) hS (fun v0 w0 H locs hp hW hS => ?_)
        obtain ⟨rfl, rfl⟩ := hp
        refine lv_aload_n hx hb dL_law_496 rfl (lv_at hl 2 rfl) ?_
        refine lv_aload_n hx hb dL_law_497 rfl (lv_at hl 0 rfl) ?_
        refine lv_iload_n hx hb dL_law_498 rfl (lv_at hl 3 rfl) ?_
        refine lv_iconst (v := 1) hx hb dL_law_499 (by decide) ?_
        refine lv_iadd hx hb dL_law_500 ?_
        have s136 : vin ((z) + (1)) L := Classical.byContradiction fun q9 => by rw [if_neg q9] at h; cases h
        rw [if_pos s136] at h
        refine va_sld hx hb hX hbl hbA hS s136 dL_law_501 ?_
        obtain ⟨r137, M138, h139, h⟩ := bind2 h
        refine cBack C.2.2.2.2.2.2.2.2 (runV (As := [.int (xs ((z) + (1) : Int32).toNatClampNeg)]) (rest := [.int (r133)]) C hW hS (c_X11_cancel l g M134 (xs ((z) + (1) : Int32).toNatClampNeg) _ _ h139) kV_X11_cancel ml_L_63 (by decide) tm_Model rfl rfl rfl hl.1 rfl (Nat.le_of_ble_eq_true rfl) ⟨Nat.le_of_ble_eq_true rfl, Nat.le_of_ble_eq_true rfl⟩ ⟨hc1, hc2⟩ dL_law_502) hS (fun v0 w0 H locs hp hW hS => ?_)
        obtain ⟨rfl, rfl⟩ := hp
        refine lv_icmp_eq (tgt := 806) hx hb dL_law_505 (by decide) (fun c140 => ?_) (fun c140 => ?_)
        · rw [if_pos c140] at h
          refine lv_iinc (v := z + 4) (lv' := [(3, .int (z + 4)), (0, .ref sb), (1, rf g (0)), (2, rf g (1697))]) hx hb dL_law_806 hl (k := 3) rfl rfl (by decide) rfl (fun ls hl => ?_)
          refine lv_goto (tgt := 18) hx hb dL_law_809 (by decide) ?_
          exact ih M138 (z + 4) h _ _ hW hS ls (lv_sub hl [1, 2, 3, 0] rfl)
        · rw [if_neg c140] at h
          refine lv_iconst (v := 0) hx hb dL_law_508 (by decide) ?_
          cases h
      rw [if_neg c131] at h
      by_cases c141 : ((xs (z : Int32).toNatClampNeg) &&& (31) : Int32) = 12
      · rw [if_pos c141] at h
        refine lv_tableIn (off := 478) (tgt := 510) hx hb dL_law_32 (by rw [c141]; decide) (by rw [c141]; decide) (by rw [c141]; rfl) (by decide) ?_
        refine lv_aload_n hx hb dL_law_510 rfl (lv_at hl 1 rfl) ?_
        refine lv_aload_n hx hb dL_law_511 rfl (lv_at hl 0 rfl) ?_
        refine lv_iload_n hx hb dL_law_512 rfl (lv_at hl 3 rfl) ?_
        refine lv_iconst (v := 1) hx hb dL_law_513 (by decide) ?_
        refine lv_iadd hx hb dL_law_514 ?_
        have s142 : vin ((z) + (1)) L := Classical.byContradiction fun q9 => by rw [if_neg q9] at h; cases h
        rw [if_pos s142] at h
        refine va_sld hx hb hX hbl hbA hS s142 dL_law_515 ?_
        refine lv_aload_n hx hb dL_law_516 rfl (lv_at hl 0 rfl) ?_
        refine lv_iload_n hx hb dL_law_517 rfl (lv_at hl 3 rfl) ?_
        refine lv_iconst (v := 2) hx hb dL_law_518 (by decide) ?_
        refine lv_iadd hx hb dL_law_519 ?_
        have s143 : vin ((z) + (2)) L := Classical.byContradiction fun q9 => by rw [if_neg q9] at h; cases h
        rw [if_pos s143] at h
        refine va_sld hx hb hX hbl hbA hS s143 dL_law_520 ?_
        obtain ⟨r144, M145, h146, h⟩ := bind2 h
        refine cBack C.2.2.2.2.2.2.2.2 (runV (As := [.int (xs ((z) + (1) : Int32).toNatClampNeg), .int (xs ((z) + (2) : Int32).toNatClampNeg)]) (rest := []) C hW hS (c_X10_send l g M (xs ((z) + (1) : Int32).toNatClampNeg) (xs ((z) + (2) : Int32).toNatClampNeg) _ _ h146) kV_X10_send ml_L_64 (by decide) tm_BF rfl rfl rfl hl.1 rfl (Nat.le_of_ble_eq_true rfl) ⟨Nat.le_of_ble_eq_true rfl, Nat.le_of_ble_eq_true rfl⟩ ⟨hc1, hc2⟩ dL_law_521) hS (fun v0 w0 H locs hp hW hS => ?_)
        obtain ⟨rfl, rfl⟩ := hp
        refine lv_aload_n hx hb dL_law_524 rfl (lv_at hl 2 rfl) ?_
        refine lv_aload_n hx hb dL_law_525 rfl (lv_at hl 0 rfl) ?_
        refine lv_iload_n hx hb dL_law_526 rfl (lv_at hl 3 rfl) ?_
        refine lv_iconst (v := 1) hx hb dL_law_527 (by decide) ?_
        refine lv_iadd hx hb dL_law_528 ?_
        have s147 : vin ((z) + (1)) L := Classical.byContradiction fun q9 => by rw [if_neg q9] at h; cases h
        rw [if_pos s147] at h
        refine va_sld hx hb hX hbl hbA hS s147 dL_law_529 ?_
        refine lv_aload_n hx hb dL_law_530 rfl (lv_at hl 0 rfl) ?_
        refine lv_iload_n hx hb dL_law_531 rfl (lv_at hl 3 rfl) ?_
        refine lv_iconst (v := 2) hx hb dL_law_532 (by decide) ?_
        refine lv_iadd hx hb dL_law_533 ?_
        have s148 : vin ((z) + (2)) L := Classical.byContradiction fun q9 => by rw [if_neg q9] at h; cases h
        rw [if_pos s148] at h
        refine va_sld hx hb hX hbl hbA hS s148 dL_law_534 ?_
        obtain ⟨r149, M150, h151, h⟩ := bind2 h
        refine cBack C.2.2.2.2.2.2.2.2 (runV (As := [.int (xs ((z) + (1) : Int32).toNatClampNeg), .int (xs ((z) + (2) : Int32).toNatClampNeg)]) (rest := [.int (r144)]) C hW hS (c_X11_send l g M145 (xs ((z) + (1) : Int32).toNatClampNeg) (xs ((z) + (2) : Int32).toNatClampNeg) _ _ h151) kV_X11_send ml_L_67 (by decide) tm_Model rfl rfl rfl hl.1 rfl (Nat.le_of_ble_eq_true rfl) ⟨Nat.le_of_ble_eq_true rfl, Nat.le_of_ble_eq_true rfl⟩ ⟨hc1, hc2⟩ dL_law_535) hS (fun v0 w0 H locs hp hW hS => ?_)
        obtain ⟨rfl, rfl⟩ := hp
        refine lv_icmp_eq (tgt := 806) hx hb dL_law_538 (by decide) (fun c152 => ?_) (fun c152 => ?_)
        · rw [if_pos c152] at h
          refine lv_iinc (v := z + 4) (lv' := [(3, .int (z + 4)), (0, .ref sb), (1, rf g (0)), (2, rf g (1697))]) hx hb dL_law_806 hl (k := 3) rfl rfl (by decide) rfl (fun ls hl => ?_)
          refine lv_goto (tgt := 18) hx hb dL_law_809 (by decide) ?_
          exact ih M150 (z + 4) h _ _ hW hS ls (lv_sub hl [1, 2, 3, 0] rfl)
        · rw [if_neg c152] at h
          refine lv_iconst (v := 0) hx hb dL_law_541 (by decide) ?_
          cases h
      rw [if_neg c141] at h
      by_cases c153 : ((xs (z : Int32).toNatClampNeg) &&& (31) : Int32) = 13
      · rw [if_pos c153] at h
        refine lv_tableIn (off := 511) (tgt := 543) hx hb dL_law_32 (by rw [c153]; decide) (by rw [c153]; decide) (by rw [c153]; rfl) (by decide) ?_
        refine lv_aload_n hx hb dL_law_543 rfl (lv_at hl 1 rfl) ?_
        refine lv_aload_n hx hb dL_law_544 rfl (lv_at hl 0 rfl) ?_
        refine lv_iload_n hx hb dL_law_545 rfl (lv_at hl 3 rfl) ?_
        refine lv_iconst (v := 1) hx hb dL_law_546 (by decide) ?_
        refine lv_iadd hx hb dL_law_547 ?_
        have s154 : vin ((z) + (1)) L := Classical.byContradiction fun q9 => by rw [if_neg q9] at h; cases h
        rw [if_pos s154] at h
        refine va_sld hx hb hX hbl hbA hS s154 dL_law_548 ?_
        refine lv_aload_n hx hb dL_law_549 rfl (lv_at hl 0 rfl) ?_
        refine lv_iload_n hx hb dL_law_550 rfl (lv_at hl 3 rfl) ?_
        refine lv_iconst (v := 2) hx hb dL_law_551 (by decide) ?_
        refine lv_iadd hx hb dL_law_552 ?_
        have s155 : vin ((z) + (2)) L := Classical.byContradiction fun q9 => by rw [if_neg q9] at h; cases h
        rw [if_pos s155] at h
        refine va_sld hx hb hX hbl hbA hS s155 dL_law_553 ?_
        obtain ⟨r156, M157, h158, h⟩ := bind2 h
        refine cBack C.2.2.2.2.2.2.2.2 (runV (As := [.int (xs ((z) + (1) : Int32).toNatClampNeg), .int (xs ((z) + (2) : Int32).toNatClampNeg)]) (rest := []) C hW hS (c_X10_orderOf l g M (xs ((z) + (1) : Int32).toNatClampNeg) (xs ((z) + (2) : Int32).toNatClampNeg) _ _ h158) kV_X10_orderOf ml_L_68 (by decide) tm_BF rfl rfl rfl hl.1 rfl (Nat.le_of_ble_eq_true rfl) ⟨Nat.le_of_ble_eq_true rfl, Nat.le_of_ble_eq_true rfl⟩ ⟨hc1, hc2⟩ dL_law_554) hS (fun v0 w0 H locs hp hW hS => ?_)
        obtain ⟨rfl, rfl⟩ := hp
        refine lv_aload_n hx hb dL_law_557 rfl (lv_at hl 2 rfl) ?_
        refine lv_aload_n hx hb dL_law_558 rfl (lv_at hl 0 rfl) ?_
        refine lv_iload_n hx hb dL_law_559 rfl (lv_at hl 3 rfl) ?_
        refine lv_iconst (v := 1) hx hb dL_law_560 (by decide) ?_
        refine lv_iadd hx hb dL_law_561 ?_
        have s159 : vin ((z) + (1)) L := Classical.byContradiction fun q9 => by rw [if_neg q9] at h; cases h
        rw [if_pos s159] at h
        refine va_sld hx hb hX hbl hbA hS s159 dL_law_562 ?_
        refine lv_aload_n hx hb dL_law_563 rfl (lv_at hl 0 rfl) ?_
        refine lv_iload_n hx hb dL_law_564 rfl (lv_at hl 3 rfl) ?_
        refine lv_iconst (v := 2) hx hb dL_law_565 (by decide) ?_
        refine lv_iadd hx hb dL_law_566 ?_
        have s160 : vin ((z) + (2)) L := Classical.byContradiction fun q9 => by rw [if_neg q9] at h; cases h
        rw [if_pos s160] at h
        refine va_sld hx hb hX hbl hbA hS s160 dL_law_567 ?_
        obtain ⟨r161, M162, h163, h⟩ := bind2 h
        refine cBack C.2.2.2.2.2.2.2.2 (runV (As := [.int (xs ((z) + (1) : Int32).toNatClampNeg), .int (xs ((z) + (2) : Int32).toNatClampNeg)]) (rest := [.int (r156)]) C hW hS (c_X11_orderOf l g M157 (xs ((z) + (1) : Int32).toNatClampNeg) (xs ((z) + (2) : Int32).toNatClampNeg) _ _ h163) kV_X11_orderOf ml_L_71 (by decide) tm_Model rfl rfl rfl hl.1 rfl (Nat.le_of_ble_eq_true rfl) ⟨Nat.le_of_ble_eq_true rfl, Nat.le_of_ble_eq_true rfl⟩ ⟨hc1, hc2⟩ dL_law_568) hS (fun v0 w0 H locs hp hW hS => ?_)
        obtain ⟨rfl, rfl⟩ := hp
        refine lv_icmp_eq (tgt := 806) hx hb dL_law_571 (by decide) (fun c164 => ?_) (fun c164 => ?_)
        · rw [if_pos c164] at h
          refine lv_iinc (v := z + 4) (lv' := [(3, .int (z + 4)), (0, .ref sb), (1, rf g (0)), (2, rf g (1697))]) hx hb dL_law_806 hl (k := 3) rfl rfl (by decide) rfl (fun ls hl => ?_)
          refine lv_goto (tgt := 18) hx hb dL_law_809 (by decide) ?_
          exact ih M162 (z + 4) h _ _ hW hS ls (lv_sub hl [1, 2, 3, 0] rfl)
        · rw [if_neg c164] at h
          refine lv_iconst (v := 0) hx hb dL_law_574 (by decide) ?_
          cases h
      rw [if_neg c153] at h
      by_cases c165 : ((xs (z : Int32).toNatClampNeg) &&& (31) : Int32) = 14
      · rw [if_pos c165] at h
        refine lv_tableIn (off := 544) (tgt := 576) hx hb dL_law_32 (by rw [c165]; decide) (by rw [c165]; decide) (by rw [c165]; rfl) (by decide) ?_
        refine lv_aload_n hx hb dL_law_576 rfl (lv_at hl 1 rfl) ?_
        refine lv_aload_n hx hb dL_law_577 rfl (lv_at hl 0 rfl) ?_
        refine lv_iload_n hx hb dL_law_578 rfl (lv_at hl 3 rfl) ?_
        refine lv_iconst (v := 1) hx hb dL_law_579 (by decide) ?_
        refine lv_iadd hx hb dL_law_580 ?_
        have s166 : vin ((z) + (1)) L := Classical.byContradiction fun q9 => by rw [if_neg q9] at h; cases h
        rw [if_pos s166] at h
        refine va_sld hx hb hX hbl hbA hS s166 dL_law_581 ?_
        refine lv_aload_n hx hb dL_law_582 rfl (lv_at hl 0 rfl) ?_
        refine lv_iload_n hx hb dL_law_583 rfl (lv_at hl 3 rfl) ?_
        refine lv_iconst (v := 2) hx hb dL_law_584 (by decide) ?_
        refine lv_iadd hx hb dL_law_585 ?_
        have s167 : vin ((z) + (2)) L := Classical.byContradiction fun q9 => by rw [if_neg q9] at h; cases h
        rw [if_pos s167] at h
        refine va_sld hx hb hX hbl hbA hS s167 dL_law_586 ?_
        obtain ⟨r168, M169, h170, h⟩ := bind2 h
        refine cBack C.2.2.2.2.2.2.2.2 (runV (As := [.int (xs ((z) + (1) : Int32).toNatClampNeg), .int (xs ((z) + (2) : Int32).toNatClampNeg)]) (rest := []) C hW hS (c_X10_tuneFor l g M (xs ((z) + (1) : Int32).toNatClampNeg) (xs ((z) + (2) : Int32).toNatClampNeg) _ _ h170) kV_X10_tuneFor ml_L_72 (by decide) tm_BF rfl rfl rfl hl.1 rfl (Nat.le_of_ble_eq_true rfl) ⟨Nat.le_of_ble_eq_true rfl, Nat.le_of_ble_eq_true rfl⟩ ⟨hc1, hc2⟩ dL_law_587) hS (fun v0 w0 H locs hp hW hS => ?_)
        obtain ⟨rfl, rfl⟩ := hp
        refine lv_aload_n hx hb dL_law_590 rfl (lv_at hl 2 rfl) ?_
        refine lv_aload_n hx hb dL_law_591 rfl (lv_at hl 0 rfl) ?_
        refine lv_iload_n hx hb dL_law_592 rfl (lv_at hl 3 rfl) ?_
        refine lv_iconst (v := 1) hx hb dL_law_593 (by decide) ?_
        refine lv_iadd hx hb dL_law_594 ?_
        have s171 : vin ((z) + (1)) L := Classical.byContradiction fun q9 => by rw [if_neg q9] at h; cases h
        rw [if_pos s171] at h
        refine va_sld hx hb hX hbl hbA hS s171 dL_law_595 ?_
        refine lv_aload_n hx hb dL_law_596 rfl (lv_at hl 0 rfl) ?_
        refine lv_iload_n hx hb dL_law_597 rfl (lv_at hl 3 rfl) ?_
        refine lv_iconst (v := 2) hx hb dL_law_598 (by decide) ?_
        refine lv_iadd hx hb dL_law_599 ?_
        have s172 : vin ((z) + (2)) L := Classical.byContradiction fun q9 => by rw [if_neg q9] at h; cases h
        rw [if_pos s172] at h
        refine va_sld hx hb hX hbl hbA hS s172 dL_law_600 ?_
        obtain ⟨r173, M174, h175, h⟩ := bind2 h
        refine cBack C.2.2.2.2.2.2.2.2 (runV (As := [.int (xs ((z) + (1) : Int32).toNatClampNeg), .int (xs ((z) + (2) : Int32).toNatClampNeg)]) (rest := [.int (r168)]) C hW hS (c_X11_tuneFor l g M169 (xs ((z) + (1) : Int32).toNatClampNeg) (xs ((z) + (2) : Int32).toNatClampNeg) _ _ h175) kV_X11_tuneFor ml_L_75 (by decide) tm_Model rfl rfl rfl hl.1 rfl (Nat.le_of_ble_eq_true rfl) ⟨Nat.le_of_ble_eq_true rfl, Nat.le_of_ble_eq_true rfl⟩ ⟨hc1, hc2⟩ dL_law_601) hS (fun v0 w0 H locs hp hW hS => ?_)
        obtain ⟨rfl, rfl⟩ := hp
        refine lv_icmp_eq (tgt := 806) hx hb dL_law_604 (by decide) (fun c176 => ?_) (fun c176 => ?_)
        · rw [if_pos c176] at h
          refine lv_iinc (v := z + 4) (lv' := [(3, .int (z + 4)), (0, .ref sb), (1, rf g (0)), (2, rf g (1697))]) hx hb dL_law_806 hl (k := 3) rfl rfl (by decide) rfl (fun ls hl => ?_)
          refine lv_goto (tgt := 18) hx hb dL_law_809 (by decide) ?_
          exact ih M174 (z + 4) h _ _ hW hS ls (lv_sub hl [1, 2, 3, 0] rfl)
        · rw [if_neg c176] at h
          refine lv_iconst (v := 0) hx hb dL_law_607 (by decide) ?_
          cases h
      rw [if_neg c165] at h
      by_cases c177 : ((xs (z : Int32).toNatClampNeg) &&& (31) : Int32) = 15
      · rw [if_pos c177] at h
        refine lv_tableIn (off := 577) (tgt := 609) hx hb dL_law_32 (by rw [c177]; decide) (by rw [c177]; decide) (by rw [c177]; rfl) (by decide) ?_
        refine lv_aload_n hx hb dL_law_609 rfl (lv_at hl 1 rfl) ?_
        refine lv_aload_n hx hb dL_law_610 rfl (lv_at hl 0 rfl) ?_
        refine lv_iload_n hx hb dL_law_611 rfl (lv_at hl 3 rfl) ?_
        refine lv_iconst (v := 1) hx hb dL_law_612 (by decide) ?_
        refine lv_iadd hx hb dL_law_613 ?_
        have s178 : vin ((z) + (1)) L := Classical.byContradiction fun q9 => by rw [if_neg q9] at h; cases h
        rw [if_pos s178] at h
        refine va_sld hx hb hX hbl hbA hS s178 dL_law_614 ?_
        obtain ⟨r179, M180, h181, h⟩ := bind2 h
        refine cBack C.2.2.2.2.2.2.2.2 (runV (As := [.int (xs ((z) + (1) : Int32).toNatClampNeg)]) (rest := []) C hW hS (c_X10_pourFor l g M (xs ((z) + (1) : Int32).toNatClampNeg) _ _ h181) kV_X10_pourFor ml_L_76 (by decide) tm_BF rfl rfl rfl hl.1 rfl (Nat.le_of_ble_eq_true rfl) ⟨Nat.le_of_ble_eq_true rfl, Nat.le_of_ble_eq_true rfl⟩ ⟨hc1, hc2⟩ dL_law_615) hS (fun v0 w0 H locs hp hW hS => ?_)
        obtain ⟨rfl, rfl⟩ := hp
        refine lv_aload_n hx hb dL_law_618 rfl (lv_at hl 2 rfl) ?_
        refine lv_aload_n hx hb dL_law_619 rfl (lv_at hl 0 rfl) ?_
        refine lv_iload_n hx hb dL_law_620 rfl (lv_at hl 3 rfl) ?_
        refine lv_iconst (v := 1) hx hb dL_law_621 (by decide) ?_
        refine lv_iadd hx hb dL_law_622 ?_
        have s182 : vin ((z) + (1)) L := Classical.byContradiction fun q9 => by rw [if_neg q9] at h; cases h
        rw [if_pos s182] at h
        refine va_sld hx hb hX hbl hbA hS s182 dL_law_623 ?_
        obtain ⟨r183, M184, h185, h⟩ := bind2 h
        refine cBack C.2.2.2.2.2.2.2.2 (runV (As := [.int (xs ((z) + (1) : Int32).toNatClampNeg)]) (rest := [.int (r179)]) C hW hS (c_X11_pourFor l g M180 (xs ((z) + (1) : Int32).toNatClampNeg) _ _ h185) kV_X11_pourFor ml_L_79 (by decide) tm_Model rfl rfl rfl hl.1 rfl (Nat.le_of_ble_eq_true rfl) ⟨Nat.le_of_ble_eq_true rfl, Nat.le_of_ble_eq_true rfl⟩ ⟨hc1, hc2⟩ dL_law_624) hS (fun v0 w0 H locs hp hW hS => ?_)
        obtain ⟨rfl, rfl⟩ := hp
        refine lv_icmp_eq (tgt := 806) hx hb dL_law_627 (by decide) (fun c186 => ?_) (fun c186 => ?_)
        · rw [if_pos c186] at h
          refine lv_iinc (v := z + 4) (lv' := [(3, .int (z + 4)), (0, .ref sb), (1, rf g (0)), (2, rf g (1697))]) hx hb dL_law_806 hl (k := 3) rfl rfl (by decide) rfl (fun ls hl => ?_)
          refine lv_goto (tgt := 18) hx hb dL_law_809 (by decide) ?_
          exact ih M184 (z + 4) h _ _ hW hS ls (lv_sub hl [1, 2, 3, 0] rfl)
        · rw [if_neg c186] at h
          refine lv_iconst (v := 0) hx hb dL_law_630 (by decide) ?_
          cases h
      rw [if_neg c177] at h
      by_cases c187 : ((xs (z : Int32).toNatClampNeg) &&& (31) : Int32) = 16
      · rw [if_pos c187] at h
        refine lv_tableIn (off := 600) (tgt := 632) hx hb dL_law_32 (by rw [c187]; decide) (by rw [c187]; decide) (by rw [c187]; rfl) (by decide) ?_
        refine lv_aload_n hx hb dL_law_632 rfl (lv_at hl 1 rfl) ?_
        refine lv_aload_n hx hb dL_law_633 rfl (lv_at hl 0 rfl) ?_
        refine lv_iload_n hx hb dL_law_634 rfl (lv_at hl 3 rfl) ?_
        refine lv_iconst (v := 1) hx hb dL_law_635 (by decide) ?_
        refine lv_iadd hx hb dL_law_636 ?_
        have s188 : vin ((z) + (1)) L := Classical.byContradiction fun q9 => by rw [if_neg q9] at h; cases h
        rw [if_pos s188] at h
        refine va_sld hx hb hX hbl hbA hS s188 dL_law_637 ?_
        obtain ⟨r189, M190, h191, h⟩ := bind2 h
        refine cBack C.2.2.2.2.2.2.2.2 (runV (As := [.int (xs ((z) + (1) : Int32).toNatClampNeg)]) (rest := []) C hW hS (c_X10_wagons l g M (xs ((z) + (1) : Int32).toNatClampNeg) _ _ h191) kV_X10_wagons ml_L_80 (by decide) tm_BF rfl rfl rfl hl.1 rfl (Nat.le_of_ble_eq_true rfl) ⟨Nat.le_of_ble_eq_true rfl, Nat.le_of_ble_eq_true rfl⟩ ⟨hc1, hc2⟩ dL_law_638) hS (fun v0 w0 H locs hp hW hS => ?_)
        obtain ⟨rfl, rfl⟩ := hp
        refine lv_aload_n hx hb dL_law_641 rfl (lv_at hl 2 rfl) ?_
        refine lv_aload_n hx hb dL_law_642 rfl (lv_at hl 0 rfl) ?_
        refine lv_iload_n hx hb dL_law_643 rfl (lv_at hl 3 rfl) ?_
        refine lv_iconst (v := 1) hx hb dL_law_644 (by decide) ?_
        refine lv_iadd hx hb dL_law_645 ?_
        have s192 : vin ((z) + (1)) L := Classical.byContradiction fun q9 => by rw [if_neg q9] at h; cases h
        rw [if_pos s192] at h
        refine va_sld hx hb hX hbl hbA hS s192 dL_law_646 ?_
        obtain ⟨r193, M194, h195, h⟩ := bind2 h
        refine cBack C.2.2.2.2.2.2.2.2 (runV (As := [.int (xs ((z) + (1) : Int32).toNatClampNeg)]) (rest := [.int (r189)]) C hW hS (c_X11_wagons l g M190 (xs ((z) + (1) : Int32).toNatClampNeg) _ _ h195) kV_X11_wagons ml_L_83 (by decide) tm_Model rfl rfl rfl hl.1 rfl (Nat.le_of_ble_eq_true rfl) ⟨Nat.le_of_ble_eq_true rfl, Nat.le_of_ble_eq_true rfl⟩ ⟨hc1, hc2⟩ dL_law_647) hS (fun v0 w0 H locs hp hW hS => ?_)
        obtain ⟨rfl, rfl⟩ := hp
        refine lv_icmp_eq (tgt := 806) hx hb dL_law_650 (by decide) (fun c196 => ?_) (fun c196 => ?_)
        · rw [if_pos c196] at h
          refine lv_iinc (v := z + 4) (lv' := [(3, .int (z + 4)), (0, .ref sb), (1, rf g (0)), (2, rf g (1697))]) hx hb dL_law_806 hl (k := 3) rfl rfl (by decide) rfl (fun ls hl => ?_)
          refine lv_goto (tgt := 18) hx hb dL_law_809 (by decide) ?_
          exact ih M194 (z + 4) h _ _ hW hS ls (lv_sub hl [1, 2, 3, 0] rfl)
        · rw [if_neg c196] at h
          refine lv_iconst (v := 0) hx hb dL_law_653 (by decide) ?_
          cases h
      rw [if_neg c187] at h
      by_cases c197 : ((xs (z : Int32).toNatClampNeg) &&& (31) : Int32) = 17
      · rw [if_pos c197] at h
        refine lv_tableIn (off := 623) (tgt := 655) hx hb dL_law_32 (by rw [c197]; decide) (by rw [c197]; decide) (by rw [c197]; rfl) (by decide) ?_
        refine lv_aload_n hx hb dL_law_655 rfl (lv_at hl 1 rfl) ?_
        refine lv_aload_n hx hb dL_law_656 rfl (lv_at hl 0 rfl) ?_
        refine lv_iload_n hx hb dL_law_657 rfl (lv_at hl 3 rfl) ?_
        refine lv_iconst (v := 1) hx hb dL_law_658 (by decide) ?_
        refine lv_iadd hx hb dL_law_659 ?_
        have s198 : vin ((z) + (1)) L := Classical.byContradiction fun q9 => by rw [if_neg q9] at h; cases h
        rw [if_pos s198] at h
        refine va_sld hx hb hX hbl hbA hS s198 dL_law_660 ?_
        refine lv_aload_n hx hb dL_law_661 rfl (lv_at hl 0 rfl) ?_
        refine lv_iload_n hx hb dL_law_662 rfl (lv_at hl 3 rfl) ?_
        refine lv_iconst (v := 2) hx hb dL_law_663 (by decide) ?_
        refine lv_iadd hx hb dL_law_664 ?_
        have s199 : vin ((z) + (2)) L := Classical.byContradiction fun q9 => by rw [if_neg q9] at h; cases h
        rw [if_pos s199] at h
        refine va_sld hx hb hX hbl hbA hS s199 dL_law_665 ?_
        obtain ⟨r200, M201, h202, h⟩ := bind2 h
        refine cBack C.2.2.2.2.2.2.2.2 (runV (As := [.int (xs ((z) + (1) : Int32).toNatClampNeg), .int (xs ((z) + (2) : Int32).toNatClampNeg)]) (rest := []) C hW hS (c_X10_account l g M (xs ((z) + (1) : Int32).toNatClampNeg) (xs ((z) + (2) : Int32).toNatClampNeg) _ _ h202) kV_X10_account ml_L_84 (by decide) tm_BF rfl rfl rfl hl.1 rfl (Nat.le_of_ble_eq_true rfl) ⟨Nat.le_of_ble_eq_true rfl, Nat.le_of_ble_eq_true rfl⟩ ⟨hc1, hc2⟩ dL_law_666) hS (fun v0 w0 H locs hp hW hS => ?_)
        obtain ⟨rfl, rfl⟩ := hp
        refine lv_aload_n hx hb dL_law_669 rfl (lv_at hl 2 rfl) ?_
        refine lv_aload_n hx hb dL_law_670 rfl (lv_at hl 0 rfl) ?_
        refine lv_iload_n hx hb dL_law_671 rfl (lv_at hl 3 rfl) ?_
        refine lv_iconst (v := 1) hx hb dL_law_672 (by decide) ?_
        refine lv_iadd hx hb dL_law_673 ?_
        have s203 : vin ((z) + (1)) L := Classical.byContradiction fun q9 => by rw [if_neg q9] at h; cases h
        rw [if_pos s203] at h
        refine va_sld hx hb hX hbl hbA hS s203 dL_law_674 ?_
        refine lv_aload_n hx hb dL_law_675 rfl (lv_at hl 0 rfl) ?_
        refine lv_iload_n hx hb dL_law_676 rfl (lv_at hl 3 rfl) ?_
        refine lv_iconst (v := 2) hx hb dL_law_677 (by decide) ?_
        refine lv_iadd hx hb dL_law_678 ?_
        have s204 : vin ((z) + (2)) L := Classical.byContradiction fun q9 => by rw [if_neg q9] at h; cases h
        rw [if_pos s204] at h
        refine va_sld hx hb hX hbl hbA hS s204 dL_law_679 ?_
        obtain ⟨r205, M206, h207, h⟩ := bind2 h
        refine cBack C.2.2.2.2.2.2.2.2 (runV (As := [.int (xs ((z) + (1) : Int32).toNatClampNeg), .int (xs ((z) + (2) : Int32).toNatClampNeg)]) (rest := [.int (r200)]) C hW hS (c_X11_account l g M201 (xs ((z) + (1) : Int32).toNatClampNeg) (xs ((z) + (2) : Int32).toNatClampNeg) _ _ h207) kV_X11_account ml_L_87 (by decide) tm_Model rfl rfl rfl hl.1 rfl (Nat.le_of_ble_eq_true rfl) ⟨Nat.le_of_ble_eq_true rfl, Nat.le_of_ble_eq_true rfl⟩ ⟨hc1, hc2⟩ dL_law_680) hS (fun v0 w0 H locs hp hW hS => ?_)
        obtain ⟨rfl, rfl⟩ := hp
        refine lv_icmp_eq (tgt := 806) hx hb dL_law_683 (by decide) (fun c208 => ?_) (fun c208 => ?_)
        · rw [if_pos c208] at h
          refine lv_iinc (v := z + 4) (lv' := [(3, .int (z + 4)), (0, .ref sb), (1, rf g (0)), (2, rf g (1697))]) hx hb dL_law_806 hl (k := 3) rfl rfl (by decide) rfl (fun ls hl => ?_)
          refine lv_goto (tgt := 18) hx hb dL_law_809 (by decide) ?_
          exact ih M206 (z + 4) h _ _ hW hS ls (lv_sub hl [1, 2, 3, 0] rfl)
        · rw [if_neg c208] at h
          refine lv_iconst (v := 0) hx hb dL_law_686 (by decide) ?_
          cases h
      rw [if_neg c197] at h
      by_cases c209 : ((xs (z : Int32).toNatClampNeg) &&& (31) : Int32) = 18
      · rw [if_pos c209] at h
        refine lv_tableIn (off := 656) (tgt := 688) hx hb dL_law_32 (by rw [c209]; decide) (by rw [c209]; decide) (by rw [c209]; rfl) (by decide) ?_
        refine lv_aload_n hx hb dL_law_688 rfl (lv_at hl 1 rfl) ?_
        refine lv_aload_n hx hb dL_law_689 rfl (lv_at hl 0 rfl) ?_
        refine lv_iload_n hx hb dL_law_690 rfl (lv_at hl 3 rfl) ?_
        refine lv_iconst (v := 1) hx hb dL_law_691 (by decide) ?_
        refine lv_iadd hx hb dL_law_692 ?_
        have s210 : vin ((z) + (1)) L := Classical.byContradiction fun q9 => by rw [if_neg q9] at h; cases h
        rw [if_pos s210] at h
        refine va_sld hx hb hX hbl hbA hS s210 dL_law_693 ?_
        obtain ⟨r211, M212, h213, h⟩ := bind2 h
        refine cBack C.2.2.2.2.2.2.2.2 (runV (As := [.int (xs ((z) + (1) : Int32).toNatClampNeg)]) (rest := []) C hW hS (c_X10_count l g M (xs ((z) + (1) : Int32).toNatClampNeg) _ _ h213) kV_X10_count ml_L_88 (by decide) tm_BF rfl rfl rfl hl.1 rfl (Nat.le_of_ble_eq_true rfl) ⟨Nat.le_of_ble_eq_true rfl, Nat.le_of_ble_eq_true rfl⟩ ⟨hc1, hc2⟩ dL_law_694) hS (fun v0 w0 H locs hp hW hS => ?_)
        obtain ⟨rfl, rfl⟩ := hp
        refine lv_aload_n hx hb dL_law_697 rfl (lv_at hl 2 rfl) ?_
        refine lv_aload_n hx hb dL_law_698 rfl (lv_at hl 0 rfl) ?_
        refine lv_iload_n hx hb dL_law_699 rfl (lv_at hl 3 rfl) ?_
        refine lv_iconst (v := 1) hx hb dL_law_700 (by decide) ?_
        refine lv_iadd hx hb dL_law_701 ?_
        have s214 : vin ((z) + (1)) L := Classical.byContradiction fun q9 => by rw [if_neg q9] at h; cases h
        rw [if_pos s214] at h
        refine va_sld hx hb hX hbl hbA hS s214 dL_law_702 ?_
        obtain ⟨r215, M216, h217, h⟩ := bind2 h
        refine cBack C.2.2.2.2.2.2.2.2 (runV (As := [.int (xs ((z) + (1) : Int32).toNatClampNeg)]) (rest := [.int (r211)]) C hW hS (c_X11_count l g M212 (xs ((z) + (1) : Int32).toNatClampNeg) _ _ h217) kV_X11_count ml_L_91 (by decide) tm_Model rfl rfl rfl hl.1 rfl (Nat.le_of_ble_eq_true rfl) ⟨Nat.le_of_ble_eq_true rfl, Nat.le_of_ble_eq_true rfl⟩ ⟨hc1, hc2⟩ dL_law_703) hS (fun v0 w0 H locs hp hW hS => ?_)
        obtain ⟨rfl, rfl⟩ := hp
        refine lv_icmp_eq (tgt := 806) hx hb dL_law_706 (by decide) (fun c218 => ?_) (fun c218 => ?_)
        · rw [if_pos c218] at h
          refine lv_iinc (v := z + 4) (lv' := [(3, .int (z + 4)), (0, .ref sb), (1, rf g (0)), (2, rf g (1697))]) hx hb dL_law_806 hl (k := 3) rfl rfl (by decide) rfl (fun ls hl => ?_)
          refine lv_goto (tgt := 18) hx hb dL_law_809 (by decide) ?_
          exact ih M216 (z + 4) h _ _ hW hS ls (lv_sub hl [1, 2, 3, 0] rfl)
        · rw [if_neg c218] at h
          refine lv_iconst (v := 0) hx hb dL_law_709 (by decide) ?_
          cases h
      rw [if_neg c209] at h
      by_cases c219 : ((xs (z : Int32).toNatClampNeg) &&& (31) : Int32) = 19
      · rw [if_pos c219] at h
        refine lv_tableIn (off := 679) (tgt := 711) hx hb dL_law_32 (by rw [c219]; decide) (by rw [c219]; decide) (by rw [c219]; rfl) (by decide) ?_
        refine lv_aload_n hx hb dL_law_711 rfl (lv_at hl 1 rfl) ?_
        obtain ⟨r220, M221, h222, h⟩ := bind2 h
        refine cBack C.2.2.2.2.2.2.2.2 (runV (As := []) (rest := []) C hW hS (c_X10_undo l g M  _ _ h222) kV_X10_undo ml_L_92 (by decide) tm_BF rfl rfl rfl hl.1 rfl (Nat.le_of_ble_eq_true rfl) ⟨Nat.le_of_ble_eq_true rfl, Nat.le_of_ble_eq_true rfl⟩ ⟨hc1, hc2⟩ dL_law_712) hS (fun v0 w0 H locs hp hW hS => ?_)
        obtain ⟨rfl, rfl⟩ := hp
        refine lv_aload_n hx hb dL_law_715 rfl (lv_at hl 2 rfl) ?_
        obtain ⟨r223, M224, h225, h⟩ := bind2 h
        refine cBack C.2.2.2.2.2.2.2.2 (runV (As := []) (rest := [.int (r220)]) C hW hS (c_X11_undo l g M221  _ _ h225) kV_X11_undo ml_L_96 (by decide) tm_Model rfl rfl rfl hl.1 rfl (Nat.le_of_ble_eq_true rfl) ⟨Nat.le_of_ble_eq_true rfl, Nat.le_of_ble_eq_true rfl⟩ ⟨hc1, hc2⟩ dL_law_716) hS (fun v0 w0 H locs hp hW hS => ?_)
        obtain ⟨rfl, rfl⟩ := hp
        refine lv_icmp_eq (tgt := 806) hx hb dL_law_719 (by decide) (fun c226 => ?_) (fun c226 => ?_)
        · rw [if_pos c226] at h
          refine lv_iinc (v := z + 4) (lv' := [(3, .int (z + 4)), (0, .ref sb), (1, rf g (0)), (2, rf g (1697))]) hx hb dL_law_806 hl (k := 3) rfl rfl (by decide) rfl (fun ls hl => ?_)
          refine lv_goto (tgt := 18) hx hb dL_law_809 (by decide) ?_
          exact ih M224 (z + 4) h _ _ hW hS ls (lv_sub hl [1, 2, 3, 0] rfl)
        · rw [if_neg c226] at h
          refine lv_iconst (v := 0) hx hb dL_law_722 (by decide) ?_
          cases h
      rw [if_neg c219] at h
      by_cases c227 : ((xs (z : Int32).toNatClampNeg) &&& (31) : Int32) = 20
      · rw [if_pos c227] at h
        refine lv_tableIn (off := 692) (tgt := 724) hx hb dL_law_32 (by rw [c227]; decide) (by rw [c227]; decide) (by rw [c227]; rfl) (by decide) ?_
        refine lv_aload_n hx hb dL_law_724 rfl (lv_at hl 1 rfl) ?_
        refine lv_aload_n hx hb dL_law_725 rfl (lv_at hl 0 rfl) ?_
        refine lv_iload_n hx hb dL_law_726 rfl (lv_at hl 3 rfl) ?_
        refine lv_iconst (v := 1) hx hb dL_law_727 (by decide) ?_
        refine lv_iadd hx hb dL_law_728 ?_
        have s228 : vin ((z) + (1)) L := Classical.byContradiction fun q9 => by rw [if_neg q9] at h; cases h
        rw [if_pos s228] at h
        refine va_sld hx hb hX hbl hbA hS s228 dL_law_729 ?_
        obtain ⟨r229, M230, h231, h⟩ := bind2 h
        refine cBack C.2.2.2.2.2.2.2.2 (runV (As := [.int (xs ((z) + (1) : Int32).toNatClampNeg)]) (rest := []) C hW hS (c_X10_type l g M (xs ((z) + (1) : Int32).toNatClampNeg) _ _ h231) kV_X10_type ml_L_97 (by decide) tm_BF rfl rfl rfl hl.1 rfl (Nat.le_of_ble_eq_true rfl) ⟨Nat.le_of_ble_eq_true rfl, Nat.le_of_ble_eq_true rfl⟩ ⟨hc1, hc2⟩ dL_law_730) hS (fun v0 w0 H locs hp hW hS => ?_)
        obtain ⟨rfl, rfl⟩ := hp
        refine lv_aload_n hx hb dL_law_733 rfl (lv_at hl 2 rfl) ?_
        refine lv_aload_n hx hb dL_law_734 rfl (lv_at hl 0 rfl) ?_
        refine lv_iload_n hx hb dL_law_735 rfl (lv_at hl 3 rfl) ?_
        refine lv_iconst (v := 1) hx hb dL_law_736 (by decide) ?_
        refine lv_iadd hx hb dL_law_737 ?_
        have s232 : vin ((z) + (1)) L := Classical.byContradiction fun q9 => by rw [if_neg q9] at h; cases h
        rw [if_pos s232] at h
        refine va_sld hx hb hX hbl hbA hS s232 dL_law_738 ?_
        obtain ⟨r233, M234, h235, h⟩ := bind2 h
        refine cBack C.2.2.2.2.2.2.2.2 (runV (As := [.int (xs ((z) + (1) : Int32).toNatClampNeg)]) (rest := [.int (r229)]) C hW hS (c_X11_type l g M230 (xs ((z) + (1) : Int32).toNatClampNeg) _ _ h235) kV_X11_type ml_L_100 (by decide) tm_Model rfl rfl rfl hl.1 rfl (Nat.le_of_ble_eq_true rfl) ⟨Nat.le_of_ble_eq_true rfl, Nat.le_of_ble_eq_true rfl⟩ ⟨hc1, hc2⟩ dL_law_739) hS (fun v0 w0 H locs hp hW hS => ?_)
        obtain ⟨rfl, rfl⟩ := hp
        refine lv_icmp_eq (tgt := 806) hx hb dL_law_742 (by decide) (fun c236 => ?_) (fun c236 => ?_)
        · rw [if_pos c236] at h
          refine lv_iinc (v := z + 4) (lv' := [(3, .int (z + 4)), (0, .ref sb), (1, rf g (0)), (2, rf g (1697))]) hx hb dL_law_806 hl (k := 3) rfl rfl (by decide) rfl (fun ls hl => ?_)
          refine lv_goto (tgt := 18) hx hb dL_law_809 (by decide) ?_
          exact ih M234 (z + 4) h _ _ hW hS ls (lv_sub hl [1, 2, 3, 0] rfl)
        · rw [if_neg c236] at h
          refine lv_iconst (v := 0) hx hb dL_law_745 (by decide) ?_
          cases h
      rw [if_neg c227] at h
      by_cases c237 : ((xs (z : Int32).toNatClampNeg) &&& (31) : Int32) = 21
      · rw [if_pos c237] at h
        refine lv_tableIn (off := 715) (tgt := 747) hx hb dL_law_32 (by rw [c237]; decide) (by rw [c237]; decide) (by rw [c237]; rfl) (by decide) ?_
        refine lv_aload_n hx hb dL_law_747 rfl (lv_at hl 1 rfl) ?_
        obtain ⟨r238, M239, h240, h⟩ := bind2 h
        refine cBack C.2.2.2.2.2.2.2.2 (runV (As := []) (rest := []) C hW hS (c_X10_clearText l g M  _ _ h240) kV_X10_clearText ml_L_101 (by decide) tm_BF rfl rfl rfl hl.1 rfl (Nat.le_of_ble_eq_true rfl) ⟨Nat.le_of_ble_eq_true rfl, Nat.le_of_ble_eq_true rfl⟩ ⟨hc1, hc2⟩ dL_law_748) hS (fun v0 w0 H locs hp hW hS => ?_)
        obtain ⟨rfl, rfl⟩ := hp
        refine lv_aload_n hx hb dL_law_751 rfl (lv_at hl 2 rfl) ?_
        obtain ⟨r241, M242, h243, h⟩ := bind2 h
        refine cBack C.2.2.2.2.2.2.2.2 (runV (As := []) (rest := [.int (r238)]) C hW hS (c_X11_clearText l g M239  _ _ h243) kV_X11_clearText ml_L_104 (by decide) tm_Model rfl rfl rfl hl.1 rfl (Nat.le_of_ble_eq_true rfl) ⟨Nat.le_of_ble_eq_true rfl, Nat.le_of_ble_eq_true rfl⟩ ⟨hc1, hc2⟩ dL_law_752) hS (fun v0 w0 H locs hp hW hS => ?_)
        obtain ⟨rfl, rfl⟩ := hp
        refine lv_icmp_eq (tgt := 806) hx hb dL_law_755 (by decide) (fun c244 => ?_) (fun c244 => ?_)
        · rw [if_pos c244] at h
          refine lv_iinc (v := z + 4) (lv' := [(3, .int (z + 4)), (0, .ref sb), (1, rf g (0)), (2, rf g (1697))]) hx hb dL_law_806 hl (k := 3) rfl rfl (by decide) rfl (fun ls hl => ?_)
          refine lv_goto (tgt := 18) hx hb dL_law_809 (by decide) ?_
          exact ih M242 (z + 4) h _ _ hW hS ls (lv_sub hl [1, 2, 3, 0] rfl)
        · rw [if_neg c244] at h
          refine lv_iconst (v := 0) hx hb dL_law_758 (by decide) ?_
          cases h
      rw [if_neg c237] at h
      by_cases c245 : ((xs (z : Int32).toNatClampNeg) &&& (31) : Int32) = 22
      · rw [if_pos c245] at h
        refine lv_tableIn (off := 728) (tgt := 760) hx hb dL_law_32 (by rw [c245]; decide) (by rw [c245]; decide) (by rw [c245]; rfl) (by decide) ?_
        refine lv_aload_n hx hb dL_law_760 rfl (lv_at hl 1 rfl) ?_
        refine lv_aload_n hx hb dL_law_761 rfl (lv_at hl 0 rfl) ?_
        refine lv_iload_n hx hb dL_law_762 rfl (lv_at hl 3 rfl) ?_
        refine lv_iconst (v := 1) hx hb dL_law_763 (by decide) ?_
        refine lv_iadd hx hb dL_law_764 ?_
        have s246 : vin ((z) + (1)) L := Classical.byContradiction fun q9 => by rw [if_neg q9] at h; cases h
        rw [if_pos s246] at h
        refine va_sld hx hb hX hbl hbA hS s246 dL_law_765 ?_
        obtain ⟨r247, M248, h249, h⟩ := bind2 h
        refine cBack C.2.2.2.2.2.2.2.2 (runV (As := [.int (xs ((z) + (1) : Int32).toNatClampNeg)]) (rest := []) C hW hS (c_X10_fault l g M (xs ((z) + (1) : Int32).toNatClampNeg) _ _ h249) kV_X10_fault ml_L_105 (by decide) tm_BF rfl rfl rfl hl.1 rfl (Nat.le_of_ble_eq_true rfl) ⟨Nat.le_of_ble_eq_true rfl, Nat.le_of_ble_eq_true rfl⟩ ⟨hc1, hc2⟩ dL_law_766) hS (fun v0 w0 H locs hp hW hS => ?_)
        obtain ⟨rfl, rfl⟩ := hp
        refine lv_aload_n hx hb dL_law_769 rfl (lv_at hl 2 rfl) ?_
        refine lv_aload_n hx hb dL_law_770 rfl (lv_at hl 0 rfl) ?_
        refine lv_iload_n hx hb dL_law_771 rfl (lv_at hl 3 rfl) ?_
        refine lv_iconst (v := 1) hx hb dL_law_772 (by decide) ?_
        refine lv_iadd hx hb dL_law_773 ?_
        have s250 : vin ((z) + (1)) L := Classical.byContradiction fun q9 => by rw [if_neg q9] at h; cases h
        rw [if_pos s250] at h
        refine va_sld hx hb hX hbl hbA hS s250 dL_law_774 ?_
        obtain ⟨r251, M252, h253, h⟩ := bind2 h
        refine cBack C.2.2.2.2.2.2.2.2 (runV (As := [.int (xs ((z) + (1) : Int32).toNatClampNeg)]) (rest := [.int (r247)]) C hW hS (c_X11_fault l g M248 (xs ((z) + (1) : Int32).toNatClampNeg) _ _ h253) kV_X11_fault ml_L_108 (by decide) tm_Model rfl rfl rfl hl.1 rfl (Nat.le_of_ble_eq_true rfl) ⟨Nat.le_of_ble_eq_true rfl, Nat.le_of_ble_eq_true rfl⟩ ⟨hc1, hc2⟩ dL_law_775) hS (fun v0 w0 H locs hp hW hS => ?_)
        obtain ⟨rfl, rfl⟩ := hp
        refine lv_icmp_eq (tgt := 806) hx hb dL_law_778 (by decide) (fun c254 => ?_) (fun c254 => ?_)
        · rw [if_pos c254] at h
          refine lv_iinc (v := z + 4) (lv' := [(3, .int (z + 4)), (0, .ref sb), (1, rf g (0)), (2, rf g (1697))]) hx hb dL_law_806 hl (k := 3) rfl rfl (by decide) rfl (fun ls hl => ?_)
          refine lv_goto (tgt := 18) hx hb dL_law_809 (by decide) ?_
          exact ih M252 (z + 4) h _ _ hW hS ls (lv_sub hl [1, 2, 3, 0] rfl)
        · rw [if_neg c254] at h
          refine lv_iconst (v := 0) hx hb dL_law_781 (by decide) ?_
          cases h
      rw [if_neg c245] at h
      by_cases c255 : ((xs (z : Int32).toNatClampNeg) &&& (31) : Int32) = 23
      · rw [if_pos c255] at h
        refine lv_tableIn (off := 751) (tgt := 783) hx hb dL_law_32 (by rw [c255]; decide) (by rw [c255]; decide) (by rw [c255]; rfl) (by decide) ?_
        refine lv_aload_n hx hb dL_law_783 rfl (lv_at hl 1 rfl) ?_
        refine lv_aload_n hx hb dL_law_784 rfl (lv_at hl 0 rfl) ?_
        refine lv_iload_n hx hb dL_law_785 rfl (lv_at hl 3 rfl) ?_
        refine lv_iconst (v := 1) hx hb dL_law_786 (by decide) ?_
        refine lv_iadd hx hb dL_law_787 ?_
        have s256 : vin ((z) + (1)) L := Classical.byContradiction fun q9 => by rw [if_neg q9] at h; cases h
        rw [if_pos s256] at h
        refine va_sld hx hb hX hbl hbA hS s256 dL_law_788 ?_
        obtain ⟨r257, M258, h259, h⟩ := bind2 h
        refine cBack C.2.2.2.2.2.2.2.2 (runV (As := [.int (xs ((z) + (1) : Int32).toNatClampNeg)]) (rest := []) C hW hS (c_X10_frame l g M (xs ((z) + (1) : Int32).toNatClampNeg) _ _ h259) kV_X10_frame ml_L_109 (by decide) tm_BF rfl rfl rfl hl.1 rfl (Nat.le_of_ble_eq_true rfl) ⟨Nat.le_of_ble_eq_true rfl, Nat.le_of_ble_eq_true rfl⟩ ⟨hc1, hc2⟩ dL_law_789) hS (fun v0 w0 H locs hp hW hS => ?_)
        obtain ⟨rfl, rfl⟩ := hp
        refine lv_aload_n hx hb dL_law_792 rfl (lv_at hl 2 rfl) ?_
        refine lv_aload_n hx hb dL_law_793 rfl (lv_at hl 0 rfl) ?_
        refine lv_iload_n hx hb dL_law_794 rfl (lv_at hl 3 rfl) ?_
        refine lv_iconst (v := 1) hx hb dL_law_795 (by decide) ?_
        refine lv_iadd hx hb dL_law_796 ?_
        have s260 : vin ((z) + (1)) L := Classical.byContradiction fun q9 => by rw [if_neg q9] at h; cases h
        rw [if_pos s260] at h
        refine va_sld hx hb hX hbl hbA hS s260 dL_law_797 ?_
        obtain ⟨r261, M262, h263, h⟩ := bind2 h
        refine cBack C.2.2.2.2.2.2.2.2 (runV (As := [.int (xs ((z) + (1) : Int32).toNatClampNeg)]) (rest := [.int (r257)]) C hW hS (c_X11_frame l g M258 (xs ((z) + (1) : Int32).toNatClampNeg) _ _ h263) kV_X11_frame ml_L_112 (by decide) tm_Model rfl rfl rfl hl.1 rfl (Nat.le_of_ble_eq_true rfl) ⟨Nat.le_of_ble_eq_true rfl, Nat.le_of_ble_eq_true rfl⟩ ⟨hc1, hc2⟩ dL_law_798) hS (fun v0 w0 H locs hp hW hS => ?_)
        obtain ⟨rfl, rfl⟩ := hp
        refine lv_icmp_eq (tgt := 806) hx hb dL_law_801 (by decide) (fun c264 => ?_) (fun c264 => ?_)
        · rw [if_pos c264] at h
          refine lv_iinc (v := z + 4) (lv' := [(3, .int (z + 4)), (0, .ref sb), (1, rf g (0)), (2, rf g (1697))]) hx hb dL_law_806 hl (k := 3) rfl rfl (by decide) rfl (fun ls hl => ?_)
          refine lv_goto (tgt := 18) hx hb dL_law_809 (by decide) ?_
          exact ih M262 (z + 4) h _ _ hW hS ls (lv_sub hl [1, 2, 3, 0] rfl)
        · rw [if_neg c264] at h
          refine lv_iconst (v := 0) hx hb dL_law_804 (by decide) ?_
          cases h
      rw [if_neg c255] at h
      refine lv_tableOut (tgt := 806) hx hb dL_law_32 (by have nc3 := lv_neT (a := 0) c3 rfl; have nc15 := lv_neT (a := 1) c15 rfl; have nc27 := lv_neT (a := 2) c27 rfl; have nc37 := lv_neT (a := 3) c37 rfl; have nc49 := lv_neT (a := 4) c49 rfl; have nc59 := lv_neT (a := 5) c59 rfl; have nc71 := lv_neT (a := 6) c71 rfl; have nc83 := lv_neT (a := 7) c83 rfl; have nc95 := lv_neT (a := 8) c95 rfl; have nc105 := lv_neT (a := 9) c105 rfl; have nc117 := lv_neT (a := 10) c117 rfl; have nc131 := lv_neT (a := 11) c131 rfl; have nc141 := lv_neT (a := 12) c141 rfl; have nc153 := lv_neT (a := 13) c153 rfl; have nc165 := lv_neT (a := 14) c165 rfl; have nc177 := lv_neT (a := 15) c177 rfl; have nc187 := lv_neT (a := 16) c187 rfl; have nc197 := lv_neT (a := 17) c197 rfl; have nc209 := lv_neT (a := 18) c209 rfl; have nc219 := lv_neT (a := 19) c219 rfl; have nc227 := lv_neT (a := 20) c227 rfl; have nc237 := lv_neT (a := 21) c237 rfl; have nc245 := lv_neT (a := 22) c245 rfl; have nc255 := lv_neT (a := 23) c255 rfl; omega) (by decide) ?_
      refine lv_iinc (v := z + 4) (lv' := [(3, .int (z + 4)), (0, .ref sb), (1, rf g (0)), (2, rf g (1697))]) hx hb dL_law_806 hl (k := 3) rfl rfl (by decide) rfl (fun ls hl => ?_)
      refine lv_goto (tgt := 18) hx hb dL_law_809 (by decide) ?_
      exact ih M (z + 4) h _ _ hW hS ls (lv_sub hl [1, 2, 3, 0] rfl)
