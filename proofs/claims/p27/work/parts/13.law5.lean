/-! The law's own: a cell of the script, and the law's walk. -/
def cX (x : Int32) : Int32 := x ^^^ (x.toUInt32 >>> ((15 : Int32).toUInt32 &&& Int32.toUInt32 31)).toInt32
def f_L_cell (xs : Nat → Int32) (L : Nat) (k : Int32) : Option Int32 := if Int32.ofNat L ≤ k then some (cX (916318735 * (k + 3))) else if vin k L then some (cX (xs k.toNatClampNeg)) else none
def WDs (g : GD) (M : MM) (sb L : Nat) (xs : Nat → Int32) (U : State) : Prop := WDp g M U ∧ va_X sb L xs U U.heap ∧ sb < U.heap.size ∧ ¬ AU g sb
theorem WDs_blind {g : GD} {M : MM} {sb L : Nat} {xs : Nat → Int32} {av : List Value} : FrameBlind (va_Pc av (WDs g M sb L xs)) := fun a U fr mk q => ⟨q.1, ⟨q.2.1.1, va_K.moved (u := U) (U := U.calling fr mk a) (Vm.Alike.refl U.vm) q.2.1.2.1, ST.moved (u := U) (U := U.calling fr mk a) (Vm.Alike.refl U.vm) q.2.1.2.2.1, NX.same (u := U) (U := U.calling fr mk a) rfl q.2.1.2.2.2.1, q.2.1.2.2.2.2⟩, va_X.moved (u := U) (U := U.calling fr mk a) (Vm.Alike.refl U.vm) q.2.2.1, q.2.2.2⟩
theorem mkS {l : Launch} {y : MethodName} {cc : ByteArray} {maxL f lc : Nat} {ret : Option FieldType} {g : GD} {M : MM} {sb L : Nat} {xs : Nat → Int32} {av : List Value} {Qc : Array Value → State → Outcome → State → Prop} (hy : plainName y.cls = true) (hlen : (lg_sl av).length ≤ maxL)
    (body : ∀ p e s m below meth c, CX p s m av.toArray c cc maxL y.cls g → meth.sig.returnType = ret → meth.locks = false → Wd g M s.heap → sU g s s.heap [] → va_X sb L xs s s.heap → sb < s.heap.size → ¬ AU g sb → ∀ ls : Array Slot, lv_has ls maxL (lv_args 0 av) → W p l e (RM f lc) s m av.toArray below meth c s.heap [] 0 0 (MQ below Qc av.toArray s 0 0 (AU g)) (F0 m 0 ls [])) : Met l y (wm y cc maxL ret) (RM f lc) (va_Pc av (WDs g M sb L xs)) Qc 0 0 (AU g) := by
  refine Met.ofW (cc := cc) (maxL := maxL) (ret := ret) hy rfl ?_
  intro p e s m args below meth c s₁ B hml hv
  obtain ⟨rfl, ⟨hW, hK, hT, hN, hz⟩, hX, hbl, hbA⟩ := hv
  have hts := atoms_spec (ws := wm y cc maxL ret) B.pre
  have C : CX p s m av.toArray c cc maxL y.cls g := ⟨B.exec, B.bytes, hml, findClass_of_methodNamed B.named, fun w h => hts w (List.mem_cons_of_mem _ h), hK, hT, hN, hz⟩
  rw [lg_entry_eq]
  exact body p e s m below meth c C B.returns B.notSynchronized hW va_S.rf hX hbl hbA _ (lv_entry av hlen)
theorem runSX {p : Program} {l : Launch} {e : Env} {R : Room} {s : State} {m : MethodId} {args : Array Value} {below : List Frame} {meth : Method} {c : Code} {H : Heap} {locs : List Loc} {cells slots : Nat} {cc : ByteArray} {pc : Nat} {ls : Array Slot} {rest : List Value} {g : GD} {M : MM} {nL : Nat} {own : String} {sb L : Nat} {xs : Nat → Int32} {y : MethodName} {bytes : ByteArray} {maxL n index f lc : Nat} {ret : Option FieldType} {Qc : Array Value → State → Outcome → State → Prop} {As : List Value} {st0 : List Value} (C : CX p s m args c cc nL own g) (hX : va_X sb L xs s s.heap) (hbl : sb < s.heap.size) (hbA : ¬ AU g sb) (hW : Wd g M H) (hS : sU g s H locs) (hM : Met l y (wm y bytes maxL ret) (RM f lc) (va_Pc As (WDs g M sb L xs)) Qc 0 0 (AU g)) (hv : SW y bytes maxL ret n) (hl : Cond.methodLink own index y ∈ WW) (hn : As.length = n) (hsz : ls.size = nL) (hst : st0 = As.reverse ++ rest) (hrm : (rest.map fun v => v.category).sum ≤ 8) (hR : f + 1 ≤ R.frames ∧ 8 + (maxL + 11) + lc ≤ R.locals) (hcs : cells ≤ R.cells ∧ slots ≤ R.slots) (hd : decode cc pc = .ok (.invokestatic index, 3)) : va_Run p l e R s m args below meth c H locs cells slots 0 0 (F0 m pc ls st0) rest (Qc As.toArray) (AU g) := by
  obtain ⟨v1, v2, v4, v5, v6, v7⟩ := hv
  have ok : ∀ w ∈ WW, w.before args s = true := C.2.2.2.2.1
  exact va_runS (Ts := WW) ⟨C.1, C.2.1, C.2.2.1, C.2.2.2.1, ok⟩ hM ⟨callB_of n ok (wm_good v1) rfl rfl rfl (ok _ v4) (ok _ hl) ⟨v5, v6, v7⟩ hR, ok _ v2⟩ ⟨WDs_blind, fun U hU hw => ⟨rfl, C.preU hW hS hU hw, by rw [hU]; exact (hX.kept (hS.2.1 sb hbl hbA)).moved hw.alike, by rw [hU]; exact Nat.lt_of_lt_of_le hbl hS.1, hbA⟩⟩ rfl hn hsz hst (lv_room hrm) hd hcs
set_option maxHeartbeats 4000000 in
set_option maxRecDepth 100000 in
theorem c_L_cell (l : Launch) (g : GD) (M : MM) (sb L : Nat) (xs : Nat → Int32) (k r : Int32) (h : f_L_cell xs L k = some r) : Met l yL_cell (wm yL_cell cL_cell 3 (some .int)) (RM 0 0) (va_Pc [.ref sb, .int k] (WDs g M sb L xs)) (QU g (fun v w0 => v = .int r ∧ M = w0)) 0 0 (AU g) := by
  refine mkS (by decide +kernel) (Nat.le_of_ble_eq_true rfl) ?_
  intro p e s m below meth c C hr hlk hW hS hX hbl hbA ls hl
  have hl : lv_has ls 3 [(0, .ref sb), (1, .int k)] := hl
  have hx := C.1
  have hb := C.2.1
  have tl : ∀ x : Int32, some (cX x) = some r → W p l e (RM 0 0) s m [Value.ref sb, .int k].toArray below meth c s.heap [] 0 0 (MQ below (QU g (fun v w0 => v = .int r ∧ M = w0)) [Value.ref sb, .int k].toArray s 0 0 (AU g)) (F0 m 18 ls [.int x]) := by
    intro x hx9
    cases hx9
    refine lv_istore_n (lv' := [(2, .int x), (0, .ref sb), (1, .int k)]) hx hb dL_cell_18 rfl hl (by decide) rfl (fun ls hl => ?_)
    refine lv_iload_n hx hb dL_cell_19 rfl (lv_at hl 0 rfl) ?_
    refine lv_iload_n hx hb dL_cell_20 rfl (lv_at hl 0 rfl) ?_
    refine lv_bipush (v := 15) hx hb dL_cell_21 (by decide) ?_
    refine lv_iushr hx hb dL_cell_23 rfl ?_
    refine lv_ixor hx hb dL_cell_24 ?_
    exact rIU C hr hlk dL_cell_25 hW hS ⟨rfl, rfl⟩
  unfold f_L_cell at h
  refine lv_iload_n hx hb dL_cell_0 rfl (lv_at hl 1 rfl) ?_
  refine lv_aload_n hx hb dL_cell_1 rfl (lv_at hl 0 rfl) ?_
  refine va_slen hx hb hX hbl hbA hS dL_cell_2 ?_
  refine lv_icmp_ge (tgt := 12) hx hb dL_cell_3 (by decide) (fun c1 => ?_) (fun c1 => ?_)
  · rw [if_pos c1] at h
    refine lv_ldc hx hb C.2.2.2.1 (C.2.2.2.2.1 _ kc_L_7) dL_cell_12 ?_
    refine lv_iload_n hx hb dL_cell_14 rfl (lv_at hl 1 rfl) ?_
    refine lv_iconst (v := 3) hx hb dL_cell_15 (by decide) ?_
    refine lv_iadd hx hb dL_cell_16 ?_
    refine lv_imul hx hb dL_cell_17 ?_
    exact tl _ h
  · rw [if_neg c1] at h
    by_cases c2 : vin k L
    · rw [if_pos c2] at h
      refine lv_aload_n hx hb dL_cell_6 rfl (lv_at hl 0 rfl) ?_
      refine lv_iload_n hx hb dL_cell_7 rfl (lv_at hl 1 rfl) ?_
      refine va_sld hx hb hX hbl hbA hS c2 dL_cell_8 ?_
      refine lv_goto (tgt := 18) hx hb dL_cell_9 (by decide) ?_
      exact tl _ h
    · rw [if_neg c2] at h; cases h
def lp_L_law_252 (M : MM) (z : Int32) (w : Int32) : Option MM := (if (1 : Int32) = 0 then none else (if ((z) - (z) / (5) * (5) : Int32) = (4 : Int32) then (bnd2 (f_L_sum M ) fun r252004 Mw252005 => (bnd2 (f_X10_buy Mw252005 1 7) fun r252007 Mw252008 => (if (r252007 : Int32) ≤ 0 then none else (bnd2 (f_X10_charge Mw252008 1 1) fun r252011 Mw252012 => (if (r252011 : Int32) = (-1 : Int32) then none else (bnd2 (f_L_low Mw252012 w 400) fun r252015 Mw252016 => (bnd2 (f_X10_set Mw252016 2 r252015) fun r252018 Mw252019 => (if (r252018 : Int32) < 0 then none else (bnd2 (f_X10_undo Mw252019 ) fun r252022 Mw252023 => (if (r252022 : Int32) < 0 then none else (bnd2 (f_X10_undo Mw252023 ) fun r252026 Mw252027 => (if (r252026 : Int32) < 0 then none else (bnd2 (f_L_sum Mw252027 ) fun r252030 Mw252031 => (if (lg_cmp (r252030) (r252004) : Int32) = 0 then (bnd2 (f_L_sum Mw252031 ) fun r252034 Mw252035 => (if (lg_cmp (r252034) (r252004) : Int32) = 0 then some (Mw252035) else none)) else (bnd2 (f_X10_undo Mw252031 ) fun r252038 Mw252039 => (if (r252038 : Int32) < 0 then none else (bnd2 (f_L_sum Mw252039 ) fun r252042 Mw252043 => (if (lg_cmp (r252042) (r252004) : Int32) = 0 then some (Mw252043) else none)))))))))))))))))) else some (M)))
set_option maxHeartbeats 8000000 in
set_option maxRecDepth 100000 in
theorem t_L_law_252 (l : Launch) (g : GD) {p : Program} {e : Env} {s : State} {m : MethodId} {av : Array Value} {below : List Frame} {meth : Method} {c : Code} {Q : State → Prop} {sb : Nat} (C : CX p s m av c cL_law 10 RL g) (cells slots : Nat) (hc1 : cells ≤ room_1.cells) (hc2 : slots ≤ room_1.slots) : ∀ (M : MM) (z : Int32) (w : Int32) (M2 : MM), lp_L_law_252 M z w = some M2 → ∀ (H : Heap) (locs : List Loc), Wd g M H → sU g s H locs → ∀ ls : Array Slot, lv_has ls 10 [(0, .ref sb), (1, rf g (0)), (4, .int (1)), (5, .int (z)), (7, .int (w))] → (∀ (H : Heap) (locs : List Loc), Wd g M2 H → sU g s H locs → ∀ ls : Array Slot, lv_has ls 10 [(0, .ref sb), (1, rf g (0)), (4, .int (1)), (5, .int (z))] → W p l e room_1 s m av below meth c H locs (cells) (slots) Q (F0 m 355 ls [])) → W p l e room_1 s m av below meth c H locs cells slots Q (F0 m 252 ls []) := by
  have hx := C.1
  have hb := C.2.1
  have hts := C.2.2.2.2.1
  intro M z w M2 h H locs hW hS ls hl kx
  unfold lp_L_law_252 at h
  refine lv_iload hx hb dL_law_252 (lv_at hl 2 rfl) ?_
  refine lv_if_eq (tgt := 355) hx hb dL_law_254 (by decide) (fun c252001 => ?_) (fun c252001 => ?_)
  · rw [if_pos c252001] at h
    cases h
  · rw [if_neg c252001] at h
    refine lv_iload hx hb dL_law_257 (lv_at hl 3 rfl) ?_
    refine lv_iconst (v := 5) hx hb dL_law_259 (by decide) ?_
    refine lv_irem hx hb dL_law_260 (by decide) ?_
    refine lv_iconst (v := 4) hx hb dL_law_261 (by decide) ?_
    refine lv_icmp_ne (tgt := 355) hx hb dL_law_262 (by decide) (fun c252003 => ?_) (fun c252003 => ?_)
    · rw [if_neg c252003] at h
      cases h
      exact kx _ _ hW hS ls (lv_sub hl [0, 1, 2, 3] rfl)
    · rw [if_pos c252003] at h
      refine lv_aload_n hx hb dL_law_265 rfl (lv_at hl 1 rfl) ?_
      obtain ⟨r252004, Mw252005, h252006, h⟩ := bind2 h
      refine cBackL C.2.2.2.2.2.2.2.2 (runSU (As := [rf g (0)]) (rest := []) C hW hS (c_L_sum l g M  _ _ h252006) kS_L_sum ml_L_32 rfl hl.1 rfl (Nat.le_of_ble_eq_true rfl) ⟨Nat.le_of_ble_eq_true rfl, Nat.le_of_ble_eq_true rfl⟩ ⟨by omega, by omega⟩ dL_law_266) hS (fun v0 w0 H locs hp hW hS => ?_)
      obtain ⟨rfl, rfl⟩ := hp
      refine lv_lstore (lv' := [(8, .long (r252004)), (0, .ref sb), (1, rf g (0)), (4, .int (1)), (5, .int (z)), (7, .int (w))]) hx hb dL_law_269 hl (by decide) rfl (fun ls hl => ?_)
      refine lv_aload_n hx hb dL_law_271 rfl (lv_at hl 2 rfl) ?_
      refine lv_iconst (v := 1) hx hb dL_law_272 (by decide) ?_
      refine lv_bipush (v := 7) hx hb dL_law_273 (by decide) ?_
      obtain ⟨r252007, Mw252008, h252009, h⟩ := bind2 h
      refine cBackC C.2.2.2.2.2.2.2.2 (runVU (As := [.int (1), .int (7)]) (rest := []) C hW hS (c_X10_buy l g Mw252005 1 7 _ _ h252009) kV_X10_buy ml_L_38 (by decide) tm_BF rfl rfl rfl hl.1 rfl (Nat.le_of_ble_eq_true rfl) ⟨Nat.le_of_ble_eq_true rfl, Nat.le_of_ble_eq_true rfl⟩ ⟨by omega, by omega⟩ dL_law_275) hS (fun v0 w0 H locs hp hW hS hq => ?_)
      obtain ⟨rfl, rfl⟩ := hp
      refine lv_if_le (tgt := 352) hx hb dL_law_278 (by decide) (fun c252010 => ?_) (fun c252010 => ?_)
      · rw [if_pos c252010] at h
        refine lv_iconst (v := 0) hx hb dL_law_352 (by decide) ?_
        cases h
      · rw [if_neg c252010] at h
        refine lv_aload_n hx hb dL_law_281 rfl (lv_at hl 2 rfl) ?_
        refine lv_iconst (v := 1) hx hb dL_law_282 (by decide) ?_
        refine lv_iconst (v := 1) hx hb dL_law_283 (by decide) ?_
        obtain ⟨r252011, Mw252012, h252013, h⟩ := bind2 h
        refine cBackC C.2.2.2.2.2.2.2.2 (runVU (As := [.int (1), .int (1)]) (rest := []) C hW hS (c_X10_charge l g Mw252008 1 1 _ _ h252013) kV_X10_charge ml_L_41 (by decide) tm_BF rfl rfl rfl hl.1 rfl (Nat.le_of_ble_eq_true rfl) ⟨Nat.le_of_ble_eq_true rfl, Nat.le_of_ble_eq_true rfl⟩ ⟨by omega, by omega⟩ dL_law_284) hS (fun v0 w0 H locs hp hW hS hq => ?_)
        obtain ⟨rfl, rfl⟩ := hp
        refine lv_iconst (v := -1) hx hb dL_law_287 (by decide) ?_
        refine lv_icmp_eq (tgt := 352) hx hb dL_law_288 (by decide) (fun c252014 => ?_) (fun c252014 => ?_)
        · rw [if_pos c252014] at h
          refine lv_iconst (v := 0) hx hb dL_law_352 (by decide) ?_
          cases h
        · rw [if_neg c252014] at h
          refine lv_aload_n hx hb dL_law_291 rfl (lv_at hl 2 rfl) ?_
          refine lv_iconst (v := 2) hx hb dL_law_292 (by decide) ?_
          refine lv_iload hx hb dL_law_293 (lv_at hl 5 rfl) ?_
          refine lv_sipush (v := 400) hx hb dL_law_295 (by decide) ?_
          obtain ⟨r252015, Mw252016, h252017, h⟩ := bind2 h
          refine cBackL C.2.2.2.2.2.2.2.2 (runSU (As := [.int (w), .int (400)]) (rest := [.int (2), rf g (0)]) C hW hS (c_L_low l g Mw252012 w 400 _ _ h252017) kS_L_low ml_L_96 rfl hl.1 rfl (Nat.le_of_ble_eq_true rfl) ⟨Nat.le_of_ble_eq_true rfl, Nat.le_of_ble_eq_true rfl⟩ ⟨by omega, by omega⟩ dL_law_298) hS (fun v0 w0 H locs hp hW hS => ?_)
          obtain ⟨rfl, rfl⟩ := hp
          obtain ⟨r252018, Mw252019, h252020, h⟩ := bind2 h
          refine cBackC C.2.2.2.2.2.2.2.2 (runVU (As := [.int (2), .int (r252015)]) (rest := []) C hW hS (c_X10_set l g Mw252016 2 r252015 _ _ h252020) kV_X10_set ml_L_50 (by decide) tm_BF rfl rfl rfl hl.1 rfl (Nat.le_of_ble_eq_true rfl) ⟨Nat.le_of_ble_eq_true rfl, Nat.le_of_ble_eq_true rfl⟩ ⟨by omega, by omega⟩ dL_law_301) hS (fun v0 w0 H locs hp hW hS hq => ?_)
          obtain ⟨rfl, rfl⟩ := hp
          refine lv_if_lt (tgt := 352) hx hb dL_law_304 (by decide) (fun c252021 => ?_) (fun c252021 => ?_)
          · rw [if_pos c252021] at h
            refine lv_iconst (v := 0) hx hb dL_law_352 (by decide) ?_
            cases h
          · rw [if_neg c252021] at h
            refine lv_aload_n hx hb dL_law_307 rfl (lv_at hl 2 rfl) ?_
            obtain ⟨r252022, Mw252023, h252024, h⟩ := bind2 h
            refine cBackC C.2.2.2.2.2.2.2.2 (runVU (As := []) (rest := []) C hW hS (c_X10_undo l g Mw252019  _ _ h252024) kV_X10_undo ml_L_99 (by decide) tm_BF rfl rfl rfl hl.1 rfl (Nat.le_of_ble_eq_true rfl) ⟨Nat.le_of_ble_eq_true rfl, Nat.le_of_ble_eq_true rfl⟩ ⟨by omega, by omega⟩ dL_law_308) hS (fun v0 w0 H locs hp hW hS hq => ?_)
            obtain ⟨rfl, rfl⟩ := hp
            refine lv_if_lt (tgt := 352) hx hb dL_law_311 (by decide) (fun c252025 => ?_) (fun c252025 => ?_)
            · rw [if_pos c252025] at h
              refine lv_iconst (v := 0) hx hb dL_law_352 (by decide) ?_
              cases h
            · rw [if_neg c252025] at h
              refine lv_aload_n hx hb dL_law_314 rfl (lv_at hl 2 rfl) ?_
              obtain ⟨r252026, Mw252027, h252028, h⟩ := bind2 h
              refine cBackC C.2.2.2.2.2.2.2.2 (runVU (As := []) (rest := []) C hW hS (c_X10_undo l g Mw252023  _ _ h252028) kV_X10_undo ml_L_99 (by decide) tm_BF rfl rfl rfl hl.1 rfl (Nat.le_of_ble_eq_true rfl) ⟨Nat.le_of_ble_eq_true rfl, Nat.le_of_ble_eq_true rfl⟩ ⟨by omega, by omega⟩ dL_law_315) hS (fun v0 w0 H locs hp hW hS hq => ?_)
              obtain ⟨rfl, rfl⟩ := hp
              refine lv_if_lt (tgt := 352) hx hb dL_law_318 (by decide) (fun c252029 => ?_) (fun c252029 => ?_)
              · rw [if_pos c252029] at h
                refine lv_iconst (v := 0) hx hb dL_law_352 (by decide) ?_
                cases h
              · rw [if_neg c252029] at h
                refine lv_aload_n hx hb dL_law_321 rfl (lv_at hl 2 rfl) ?_
                obtain ⟨r252030, Mw252031, h252032, h⟩ := bind2 h
                refine cBackL C.2.2.2.2.2.2.2.2 (runSU (As := [rf g (0)]) (rest := []) C hW hS (c_L_sum l g Mw252027  _ _ h252032) kS_L_sum ml_L_32 rfl hl.1 rfl (Nat.le_of_ble_eq_true rfl) ⟨Nat.le_of_ble_eq_true rfl, Nat.le_of_ble_eq_true rfl⟩ ⟨by omega, by omega⟩ dL_law_322) hS (fun v0 w0 H locs hp hW hS => ?_)
                obtain ⟨rfl, rfl⟩ := hp
                refine lv_lload hx hb dL_law_325 (lv_at hl 0 rfl) ?_
                refine W.lcmp hx hb dL_law_327 ?_
                refine lv_if_eq (tgt := 338) hx hb dL_law_328 (by decide) (fun c252033 => ?_) (fun c252033 => ?_)
                · rw [if_pos c252033] at h
                  refine lv_aload_n hx hb dL_law_338 rfl (lv_at hl 2 rfl) ?_
                  obtain ⟨r252034, Mw252035, h252036, h⟩ := bind2 h
                  refine cBackL C.2.2.2.2.2.2.2.2 (runSU (As := [rf g (0)]) (rest := []) C hW hS (c_L_sum l g Mw252031  _ _ h252036) kS_L_sum ml_L_32 rfl hl.1 rfl (Nat.le_of_ble_eq_true rfl) ⟨Nat.le_of_ble_eq_true rfl, Nat.le_of_ble_eq_true rfl⟩ ⟨by omega, by omega⟩ dL_law_339) hS (fun v0 w0 H locs hp hW hS => ?_)
                  obtain ⟨rfl, rfl⟩ := hp
                  refine lv_lload hx hb dL_law_342 (lv_at hl 0 rfl) ?_
                  refine W.lcmp hx hb dL_law_344 ?_
                  refine lv_if_ne (tgt := 352) hx hb dL_law_345 (by decide) (fun c252037 => ?_) (fun c252037 => ?_)
                  · rw [if_neg c252037] at h
                    refine lv_iconst (v := 0) hx hb dL_law_352 (by decide) ?_
                    cases h
                  · rw [if_pos c252037] at h
                    refine lv_iconst (v := 1) hx hb dL_law_348 (by decide) ?_
                    refine lv_goto (tgt := 353) hx hb dL_law_349 (by decide) ?_
                    refine lv_istore (lv' := [(4, .int (1)), (8, .long (r252004)), (0, .ref sb), (1, rf g (0)), (5, .int (z)), (7, .int (w))]) hx hb dL_law_353 hl (by decide) rfl (fun ls hl => ?_)
                    cases h
                    exact kx _ _ hW hS ls (lv_sub hl [2, 3, 0, 4] rfl)
                · rw [if_neg c252033] at h
                  refine lv_aload_n hx hb dL_law_331 rfl (lv_at hl 2 rfl) ?_
                  obtain ⟨r252038, Mw252039, h252040, h⟩ := bind2 h
                  refine cBackC C.2.2.2.2.2.2.2.2 (runVU (As := []) (rest := []) C hW hS (c_X10_undo l g Mw252031  _ _ h252040) kV_X10_undo ml_L_99 (by decide) tm_BF rfl rfl rfl hl.1 rfl (Nat.le_of_ble_eq_true rfl) ⟨Nat.le_of_ble_eq_true rfl, Nat.le_of_ble_eq_true rfl⟩ ⟨by omega, by omega⟩ dL_law_332) hS (fun v0 w0 H locs hp hW hS hq => ?_)
                  obtain ⟨rfl, rfl⟩ := hp
                  refine lv_if_lt (tgt := 352) hx hb dL_law_335 (by decide) (fun c252041 => ?_) (fun c252041 => ?_)
                  · rw [if_pos c252041] at h
                    refine lv_iconst (v := 0) hx hb dL_law_352 (by decide) ?_
                    cases h
                  · rw [if_neg c252041] at h
                    refine lv_aload_n hx hb dL_law_338 rfl (lv_at hl 2 rfl) ?_
                    obtain ⟨r252042, Mw252043, h252044, h⟩ := bind2 h
                    refine cBackL C.2.2.2.2.2.2.2.2 (runSU (As := [rf g (0)]) (rest := []) C hW hS (c_L_sum l g Mw252039  _ _ h252044) kS_L_sum ml_L_32 rfl hl.1 rfl (Nat.le_of_ble_eq_true rfl) ⟨Nat.le_of_ble_eq_true rfl, Nat.le_of_ble_eq_true rfl⟩ ⟨by omega, by omega⟩ dL_law_339) hS (fun v0 w0 H locs hp hW hS => ?_)
                    obtain ⟨rfl, rfl⟩ := hp
                    refine lv_lload hx hb dL_law_342 (lv_at hl 0 rfl) ?_
                    refine W.lcmp hx hb dL_law_344 ?_
                    refine lv_if_ne (tgt := 352) hx hb dL_law_345 (by decide) (fun c252045 => ?_) (fun c252045 => ?_)
                    · rw [if_neg c252045] at h
                      refine lv_iconst (v := 0) hx hb dL_law_352 (by decide) ?_
                      cases h
                    · rw [if_pos c252045] at h
                      refine lv_iconst (v := 1) hx hb dL_law_348 (by decide) ?_
                      refine lv_goto (tgt := 353) hx hb dL_law_349 (by decide) ?_
                      refine lv_istore (lv' := [(4, .int (1)), (8, .long (r252004)), (0, .ref sb), (1, rf g (0)), (5, .int (z)), (7, .int (w))]) hx hb dL_law_353 hl (by decide) rfl (fun ls hl => ?_)
                      cases h
                      exact kx _ _ hW hS ls (lv_sub hl [2, 3, 0, 4] rfl)
def lp_L_law_192 (M : MM) (z : Int32) (v : Int32) (w : Int32) : Option MM := (bnd2 (f_L_fits M ) fun r192001 Mw192002 => (if (r192001 : Int32) = 0 then none else (if ((z) - (z) / (7) * (7) : Int32) = (5 : Int32) then (bnd2 (f_L_refused Mw192002 ) fun r192017 Mw192018 => (if (r192017 : Int32) = 0 then none else (bnd2 (f_L_areLoads Mw192018 ((w) >>> ((3) &&& 31))) fun r192021 Mw192022 => (if (r192021 : Int32) = 0 then none else (if ((z) - (z) / (4) * (4) : Int32) = (1 : Int32) then (bnd2 (f_L_comesTrue Mw192022 ((v) >>> ((5) &&& 31))) fun r192027 Mw192028 => (if (r192027 : Int32) = 0 then none else some (Mw192028))) else some (Mw192022)))))) else (bnd2 (f_L_areLoads Mw192002 ((w) >>> ((3) &&& 31))) fun r192007 Mw192008 => (if (r192007 : Int32) = 0 then none else (if ((z) - (z) / (4) * (4) : Int32) = (1 : Int32) then (bnd2 (f_L_comesTrue Mw192008 ((v) >>> ((5) &&& 31))) fun r192013 Mw192014 => (if (r192013 : Int32) = 0 then none else some (Mw192014))) else some (Mw192008)))))))
set_option maxHeartbeats 8000000 in
set_option maxRecDepth 100000 in
theorem t_L_law_192 (l : Launch) (g : GD) {p : Program} {e : Env} {s : State} {m : MethodId} {av : Array Value} {below : List Frame} {meth : Method} {c : Code} {Q : State → Prop} {sb : Nat} (C : CX p s m av c cL_law 10 RL g) (cells slots : Nat) (hc1 : cells + 1 ≤ room_1.cells) (hc2 : slots + 12 ≤ room_1.slots) : ∀ (M : MM) (z : Int32) (v : Int32) (w : Int32) (M2 : MM), lp_L_law_192 M z v w = some M2 → ∀ (H : Heap) (locs : List Loc), Wd g M H → sU g s H locs → ∀ ls : Array Slot, lv_has ls 10 [(0, .ref sb), (1, rf g (0)), (4, .int (1)), (5, .int (z)), (6, .int (v)), (7, .int (w))] → (∀ (H : Heap) (locs : List Loc), Wd g M2 H → sU g s H locs → ∀ ls : Array Slot, lv_has ls 10 [(0, .ref sb), (1, rf g (0)), (4, .int (1)), (5, .int (z)), (7, .int (w))] → W p l e room_1 s m av below meth c H locs (cells + 1) (slots + 12) Q (F0 m 252 ls [])) → W p l e room_1 s m av below meth c H locs cells slots Q (F0 m 192 ls []) := by
  have hx := C.1
  have hb := C.2.1
  have hts := C.2.2.2.2.1
  intro M z v w M2 h H locs hW hS ls hl kx
  unfold lp_L_law_192 at h
  refine lv_aload_n hx hb dL_law_192 rfl (lv_at hl 1 rfl) ?_
  obtain ⟨r192001, Mw192002, h192003, h⟩ := bind2 h
  refine cBackL C.2.2.2.2.2.2.2.2 (runSU (As := [rf g (0)]) (rest := []) C hW hS (c_L_fits l g M  _ _ h192003) kS_L_fits ml_L_121 rfl hl.1 rfl (Nat.le_of_ble_eq_true rfl) ⟨Nat.le_of_ble_eq_true rfl, Nat.le_of_ble_eq_true rfl⟩ ⟨by omega, by omega⟩ dL_law_193) hS (fun v0 w0 H locs hp hW hS => ?_)
  obtain ⟨rfl, rfl⟩ := hp
  refine lv_if_eq (tgt := 249) hx hb dL_law_196 (by decide) (fun c192004 => ?_) (fun c192004 => ?_)
  · rw [if_pos c192004] at h
    refine lv_iconst (v := 0) hx hb dL_law_249 (by decide) ?_
    cases h
  · rw [if_neg c192004] at h
    refine lv_iload hx hb dL_law_199 (lv_at hl 3 rfl) ?_
    refine lv_bipush (v := 7) hx hb dL_law_201 (by decide) ?_
    refine lv_irem hx hb dL_law_203 (by decide) ?_
    refine lv_iconst (v := 5) hx hb dL_law_204 (by decide) ?_
    refine lv_icmp_ne (tgt := 215) hx hb dL_law_205 (by decide) (fun c192006 => ?_) (fun c192006 => ?_)
    · rw [if_neg c192006] at h
      refine lv_aload_n hx hb dL_law_215 rfl (lv_at hl 1 rfl) ?_
      refine lv_iload hx hb dL_law_216 (lv_at hl 5 rfl) ?_
      refine lv_iconst (v := 3) hx hb dL_law_218 (by decide) ?_
      refine lv_ishr hx hb dL_law_219 ?_
      obtain ⟨r192007, Mw192008, h192009, h⟩ := bind2 h
      refine cBackN C.2.2.2.2.2.2.2.2 (runSU (As := [rf g (0), .int ((w) >>> ((3) &&& 31))]) (rest := []) C hW hS (c_L_areLoads l g Mw192002 ((w) >>> ((3) &&& 31)) _ _ h192009) kS_L_areLoads ml_L_128 rfl hl.1 rfl (Nat.le_of_ble_eq_true rfl) ⟨Nat.le_of_ble_eq_true rfl, Nat.le_of_ble_eq_true rfl⟩ ⟨by omega, by omega⟩ dL_law_220) hS (fun v0 w0 H locs hp hW hS => ?_)
      obtain ⟨rfl, rfl⟩ := hp
      refine lv_if_eq (tgt := 249) hx hb dL_law_223 (by decide) (fun c192010 => ?_) (fun c192010 => ?_)
      · rw [if_pos c192010] at h
        refine lv_iconst (v := 0) hx hb dL_law_249 (by decide) ?_
        cases h
      · rw [if_neg c192010] at h
        refine lv_iload hx hb dL_law_226 (lv_at hl 3 rfl) ?_
        refine lv_iconst (v := 4) hx hb dL_law_228 (by decide) ?_
        refine lv_irem hx hb dL_law_229 (by decide) ?_
        refine lv_iconst (v := 1) hx hb dL_law_230 (by decide) ?_
        refine lv_icmp_ne (tgt := 245) hx hb dL_law_231 (by decide) (fun c192012 => ?_) (fun c192012 => ?_)
        · rw [if_neg c192012] at h
          refine lv_iconst (v := 1) hx hb dL_law_245 (by decide) ?_
          refine lv_goto (tgt := 250) hx hb dL_law_246 (by decide) ?_
          refine lv_istore (lv' := [(4, .int (1)), (0, .ref sb), (1, rf g (0)), (5, .int (z)), (6, .int (v)), (7, .int (w))]) hx hb dL_law_250 hl (by decide) rfl (fun ls hl => ?_)
          cases h
          exact kx _ _ hW hS ls (lv_sub hl [1, 2, 0, 3, 5] rfl)
        · rw [if_pos c192012] at h
          refine lv_aload_n hx hb dL_law_234 rfl (lv_at hl 1 rfl) ?_
          refine lv_iload hx hb dL_law_235 (lv_at hl 4 rfl) ?_
          refine lv_iconst (v := 5) hx hb dL_law_237 (by decide) ?_
          refine lv_ishr hx hb dL_law_238 ?_
          obtain ⟨r192013, Mw192014, h192015, h⟩ := bind2 h
          refine cBackL C.2.2.2.2.2.2.2.2 (runSU (As := [rf g (0), .int ((v) >>> ((5) &&& 31))]) (rest := []) C hW hS (c_L_comesTrue l g Mw192008 ((v) >>> ((5) &&& 31)) _ _ h192015) kS_L_comesTrue ml_L_131 rfl hl.1 rfl (Nat.le_of_ble_eq_true rfl) ⟨Nat.le_of_ble_eq_true rfl, Nat.le_of_ble_eq_true rfl⟩ ⟨by omega, by omega⟩ dL_law_239) hS (fun v0 w0 H locs hp hW hS => ?_)
          obtain ⟨rfl, rfl⟩ := hp
          refine lv_if_eq (tgt := 249) hx hb dL_law_242 (by decide) (fun c192016 => ?_) (fun c192016 => ?_)
          · rw [if_pos c192016] at h
            refine lv_iconst (v := 0) hx hb dL_law_249 (by decide) ?_
            cases h
          · rw [if_neg c192016] at h
            refine lv_iconst (v := 1) hx hb dL_law_245 (by decide) ?_
            refine lv_goto (tgt := 250) hx hb dL_law_246 (by decide) ?_
            refine lv_istore (lv' := [(4, .int (1)), (0, .ref sb), (1, rf g (0)), (5, .int (z)), (6, .int (v)), (7, .int (w))]) hx hb dL_law_250 hl (by decide) rfl (fun ls hl => ?_)
            cases h
            exact kx _ _ hW hS ls (lv_sub hl [1, 2, 0, 3, 5] rfl)
    · rw [if_pos c192006] at h
      refine lv_aload_n hx hb dL_law_208 rfl (lv_at hl 1 rfl) ?_
      obtain ⟨r192017, Mw192018, h192019, h⟩ := bind2 h
      refine cBackL C.2.2.2.2.2.2.2.2 (runSU (As := [rf g (0)]) (rest := []) C hW hS (c_L_refused l g Mw192002  _ _ h192019) kS_L_refused ml_L_118 rfl hl.1 rfl (Nat.le_of_ble_eq_true rfl) ⟨Nat.le_of_ble_eq_true rfl, Nat.le_of_ble_eq_true rfl⟩ ⟨by omega, by omega⟩ dL_law_209) hS (fun v0 w0 H locs hp hW hS => ?_)
      obtain ⟨rfl, rfl⟩ := hp
      refine lv_if_eq (tgt := 249) hx hb dL_law_212 (by decide) (fun c192020 => ?_) (fun c192020 => ?_)
      · rw [if_pos c192020] at h
        refine lv_iconst (v := 0) hx hb dL_law_249 (by decide) ?_
        cases h
      · rw [if_neg c192020] at h
        refine lv_aload_n hx hb dL_law_215 rfl (lv_at hl 1 rfl) ?_
        refine lv_iload hx hb dL_law_216 (lv_at hl 5 rfl) ?_
        refine lv_iconst (v := 3) hx hb dL_law_218 (by decide) ?_
        refine lv_ishr hx hb dL_law_219 ?_
        obtain ⟨r192021, Mw192022, h192023, h⟩ := bind2 h
        refine cBackN C.2.2.2.2.2.2.2.2 (runSU (As := [rf g (0), .int ((w) >>> ((3) &&& 31))]) (rest := []) C hW hS (c_L_areLoads l g Mw192018 ((w) >>> ((3) &&& 31)) _ _ h192023) kS_L_areLoads ml_L_128 rfl hl.1 rfl (Nat.le_of_ble_eq_true rfl) ⟨Nat.le_of_ble_eq_true rfl, Nat.le_of_ble_eq_true rfl⟩ ⟨by omega, by omega⟩ dL_law_220) hS (fun v0 w0 H locs hp hW hS => ?_)
        obtain ⟨rfl, rfl⟩ := hp
        refine lv_if_eq (tgt := 249) hx hb dL_law_223 (by decide) (fun c192024 => ?_) (fun c192024 => ?_)
        · rw [if_pos c192024] at h
          refine lv_iconst (v := 0) hx hb dL_law_249 (by decide) ?_
          cases h
        · rw [if_neg c192024] at h
          refine lv_iload hx hb dL_law_226 (lv_at hl 3 rfl) ?_
          refine lv_iconst (v := 4) hx hb dL_law_228 (by decide) ?_
          refine lv_irem hx hb dL_law_229 (by decide) ?_
          refine lv_iconst (v := 1) hx hb dL_law_230 (by decide) ?_
          refine lv_icmp_ne (tgt := 245) hx hb dL_law_231 (by decide) (fun c192026 => ?_) (fun c192026 => ?_)
          · rw [if_neg c192026] at h
            refine lv_iconst (v := 1) hx hb dL_law_245 (by decide) ?_
            refine lv_goto (tgt := 250) hx hb dL_law_246 (by decide) ?_
            refine lv_istore (lv' := [(4, .int (1)), (0, .ref sb), (1, rf g (0)), (5, .int (z)), (6, .int (v)), (7, .int (w))]) hx hb dL_law_250 hl (by decide) rfl (fun ls hl => ?_)
            cases h
            exact kx _ _ hW hS ls (lv_sub hl [1, 2, 0, 3, 5] rfl)
          · rw [if_pos c192026] at h
            refine lv_aload_n hx hb dL_law_234 rfl (lv_at hl 1 rfl) ?_
            refine lv_iload hx hb dL_law_235 (lv_at hl 4 rfl) ?_
            refine lv_iconst (v := 5) hx hb dL_law_237 (by decide) ?_
            refine lv_ishr hx hb dL_law_238 ?_
            obtain ⟨r192027, Mw192028, h192029, h⟩ := bind2 h
            refine cBackL C.2.2.2.2.2.2.2.2 (runSU (As := [rf g (0), .int ((v) >>> ((5) &&& 31))]) (rest := []) C hW hS (c_L_comesTrue l g Mw192022 ((v) >>> ((5) &&& 31)) _ _ h192029) kS_L_comesTrue ml_L_131 rfl hl.1 rfl (Nat.le_of_ble_eq_true rfl) ⟨Nat.le_of_ble_eq_true rfl, Nat.le_of_ble_eq_true rfl⟩ ⟨by omega, by omega⟩ dL_law_239) hS (fun v0 w0 H locs hp hW hS => ?_)
            obtain ⟨rfl, rfl⟩ := hp
            refine lv_if_eq (tgt := 249) hx hb dL_law_242 (by decide) (fun c192030 => ?_) (fun c192030 => ?_)
            · rw [if_pos c192030] at h
              refine lv_iconst (v := 0) hx hb dL_law_249 (by decide) ?_
              cases h
            · rw [if_neg c192030] at h
              refine lv_iconst (v := 1) hx hb dL_law_245 (by decide) ?_
              refine lv_goto (tgt := 250) hx hb dL_law_246 (by decide) ?_
              refine lv_istore (lv' := [(4, .int (1)), (0, .ref sb), (1, rf g (0)), (5, .int (z)), (6, .int (v)), (7, .int (w))]) hx hb dL_law_250 hl (by decide) rfl (fun ls hl => ?_)
              cases h
              exact kx _ _ hW hS ls (lv_sub hl [1, 2, 0, 3, 5] rfl)
def lp_L_law_125 (fu : Nat) (M : MM) (xs : Nat → Int32) (L : Nat) (z : Int32) : Option Unit := match fu with
  | 0 => none
  | n + 1 => (if (36 : Int32) ≤ (z : Int32) then (if (1 : Int32) = 0 then none else (bnd2 (f_L_refused M ) fun r3 Mw4 => (if (r3 : Int32) = 0 then none else some ()))) else (if (1 : Int32) = 0 then none else (bnd1 (f_L_cell xs L ((2) * (z))) fun r8 => (bnd1 (f_L_cell xs L (((2) * (z)) + (1))) fun r11 => (if (3 : Int32) ≤ (z : Int32) then (bnd2 (f_L_low M ((r8) >>> ((2) &&& 31)) 13) fun r15 Mw16 => (bnd2 (f_L_acts Mw16 r15 ((r8) >>> ((6) &&& 31)) r11) fun r18 Mw19 => (if (r18 : Int32) = 0 then none else (bnd1 (lp_L_law_192 Mw19 z r8 r11) fun Mw22 => (bnd1 (lp_L_law_252 Mw22 z r11) fun Mw24 => (lp_L_law_125 n Mw24 xs L (z + 1))))))) else (bnd2 (f_L_acts M 2 ((r8) >>> ((6) &&& 31)) r11) fun r26 Mw27 => (if (r26 : Int32) = 0 then none else (bnd1 (lp_L_law_192 Mw27 z r8 r11) fun Mw30 => (bnd1 (lp_L_law_252 Mw30 z r11) fun Mw32 => (lp_L_law_125 n Mw32 xs L (z + 1)))))))))))
set_option maxHeartbeats 8000000 in
set_option maxRecDepth 100000 in
theorem t_L_law_125 (l : Launch) (g : GD) {p : Program} {e : Env} {s : State} {m : MethodId} {av : Array Value} {below : List Frame} {meth : Method} {c : Code} {Q : State → Prop} {sb L : Nat} {xs : Nat → Int32} (C : CX p s m av c cL_law 10 RL g) (hX : va_X sb L xs s s.heap) (hbl : sb < s.heap.size) (hbA : ¬ AU g sb) (kx : ∀ (H : Heap) (locs : List Loc) (ls : Array Slot) (cells slots : Nat), cells ≤ room_1.cells → slots ≤ room_1.slots → sU g s H locs → W p l e room_1 s m av below meth c H locs cells slots Q (F0 m 378 ls [.int 1])) (n : Nat) : ∀ (M : MM) (z : Int32) (cells slots : Nat), cells + n ≤ room_1.cells → slots + 12 * n ≤ room_1.slots → lp_L_law_125 n M xs L z = some () → ∀ (H : Heap) (locs : List Loc), Wd g M H → sU g s H locs → ∀ ls : Array Slot, lv_has ls 10 [(0, .ref sb), (1, rf g (0)), (4, .int (1)), (5, .int (z))] → W p l e room_1 s m av below meth c H locs cells slots Q (F0 m 125 ls []) := by
  have hx := C.1
  have hb := C.2.1
  have hts := C.2.2.2.2.1
  induction n with
  | zero => intro M z cells slots hc1 hc2 h; cases h
  | succ n ih =>
    intro M z cells slots hc1 hc2 h H locs hW hS ls hl
    unfold lp_L_law_125 at h
    try dsimp only at h
    refine lv_iload hx hb dL_law_125 (lv_at hl 3 rfl) ?_
    refine lv_bipush (v := 36) hx hb dL_law_127 (by decide) ?_
    refine lv_icmp_ge (tgt := 361) hx hb dL_law_129 (by decide) (fun c1 => ?_) (fun c1 => ?_)
    · rw [if_pos c1] at h
      refine lv_iload hx hb dL_law_361 (lv_at hl 2 rfl) ?_
      refine lv_if_eq (tgt := 377) hx hb dL_law_363 (by decide) (fun c2 => ?_) (fun c2 => ?_)
      · rw [if_pos c2] at h
        cases h
      · rw [if_neg c2] at h
        refine lv_aload_n hx hb dL_law_366 rfl (lv_at hl 1 rfl) ?_
        obtain ⟨r3, Mw4, h5, h⟩ := bind2 h
        refine cBackL C.2.2.2.2.2.2.2.2 (runSU (As := [rf g (0)]) (rest := []) C hW hS (c_L_refused l g M  _ _ h5) kS_L_refused ml_L_118 rfl hl.1 rfl (Nat.le_of_ble_eq_true rfl) ⟨Nat.le_of_ble_eq_true rfl, Nat.le_of_ble_eq_true rfl⟩ ⟨by omega, by omega⟩ dL_law_367) hS (fun v0 w0 H locs hp hW hS => ?_)
        obtain ⟨rfl, rfl⟩ := hp
        refine lv_if_eq (tgt := 377) hx hb dL_law_370 (by decide) (fun c6 => ?_) (fun c6 => ?_)
        · rw [if_pos c6] at h
          refine lv_iconst (v := 0) hx hb dL_law_377 (by decide) ?_
          cases h
        · rw [if_neg c6] at h
          refine lv_iconst (v := 1) hx hb dL_law_373 (by decide) ?_
          refine lv_goto (tgt := 378) hx hb dL_law_374 (by decide) ?_
          exact kx _ _ ls _ _ (by omega) (by omega) hS
    · rw [if_neg c1] at h
      refine lv_iload hx hb dL_law_132 (lv_at hl 2 rfl) ?_
      refine lv_if_eq (tgt := 361) hx hb dL_law_134 (by decide) (fun c7 => ?_) (fun c7 => ?_)
      · rw [if_pos c7] at h
        cases h
      · rw [if_neg c7] at h
        refine lv_aload_n hx hb dL_law_137 rfl (lv_at hl 0 rfl) ?_
        refine lv_iconst (v := 2) hx hb dL_law_138 (by decide) ?_
        refine lv_iload hx hb dL_law_139 (lv_at hl 3 rfl) ?_
        refine lv_imul hx hb dL_law_141 ?_
        obtain ⟨r8, h10, h⟩ := bind1 h
        refine cBackL C.2.2.2.2.2.2.2.2 (runSX (As := [.ref sb, .int ((2) * (z))]) (rest := []) C hX hbl hbA hW hS (c_L_cell l g M sb L xs ((2) * (z)) _ h10) kS_L_cell ml_L_114 rfl hl.1 rfl (Nat.le_of_ble_eq_true rfl) ⟨Nat.le_of_ble_eq_true rfl, Nat.le_of_ble_eq_true rfl⟩ ⟨by omega, by omega⟩ dL_law_142) hS (fun v0 w0 H locs hp hW hS => ?_)
        obtain ⟨rfl, rfl⟩ := hp
        refine lv_istore (lv' := [(6, .int (r8)), (0, .ref sb), (1, rf g (0)), (4, .int (1)), (5, .int (z))]) hx hb dL_law_145 hl (by decide) rfl (fun ls hl => ?_)
        refine lv_aload_n hx hb dL_law_147 rfl (lv_at hl 1 rfl) ?_
        refine lv_iconst (v := 2) hx hb dL_law_148 (by decide) ?_
        refine lv_iload hx hb dL_law_149 (lv_at hl 4 rfl) ?_
        refine lv_imul hx hb dL_law_151 ?_
        refine lv_iconst (v := 1) hx hb dL_law_152 (by decide) ?_
        refine lv_iadd hx hb dL_law_153 ?_
        obtain ⟨r11, h13, h⟩ := bind1 h
        refine cBackL C.2.2.2.2.2.2.2.2 (runSX (As := [.ref sb, .int (((2) * (z)) + (1))]) (rest := []) C hX hbl hbA hW hS (c_L_cell l g M sb L xs (((2) * (z)) + (1)) _ h13) kS_L_cell ml_L_114 rfl hl.1 rfl (Nat.le_of_ble_eq_true rfl) ⟨Nat.le_of_ble_eq_true rfl, Nat.le_of_ble_eq_true rfl⟩ ⟨by omega, by omega⟩ dL_law_154) hS (fun v0 w0 H locs hp hW hS => ?_)
        obtain ⟨rfl, rfl⟩ := hp
        refine lv_istore (lv' := [(7, .int (r11)), (6, .int (r8)), (0, .ref sb), (1, rf g (0)), (4, .int (1)), (5, .int (z))]) hx hb dL_law_157 hl (by decide) rfl (fun ls hl => ?_)
        refine lv_aload_n hx hb dL_law_159 rfl (lv_at hl 3 rfl) ?_
        refine lv_iload hx hb dL_law_160 (lv_at hl 5 rfl) ?_
        refine lv_iconst (v := 3) hx hb dL_law_162 (by decide) ?_
        refine lv_icmp_ge (tgt := 170) hx hb dL_law_163 (by decide) (fun c14 => ?_) (fun c14 => ?_)
        · rw [if_pos c14] at h
          refine lv_iload hx hb dL_law_170 (lv_at hl 1 rfl) ?_
          refine lv_iconst (v := 2) hx hb dL_law_172 (by decide) ?_
          refine lv_ishr hx hb dL_law_173 ?_
          refine lv_bipush (v := 13) hx hb dL_law_174 (by decide) ?_
          obtain ⟨r15, Mw16, h17, h⟩ := bind2 h
          refine cBackL C.2.2.2.2.2.2.2.2 (runSU (As := [.int ((r8) >>> ((2) &&& 31)), .int (13)]) (rest := [rf g (0)]) C hW hS (c_L_low l g M ((r8) >>> ((2) &&& 31)) 13 _ _ h17) kS_L_low ml_L_96 rfl hl.1 rfl (Nat.le_of_ble_eq_true rfl) ⟨Nat.le_of_ble_eq_true rfl, Nat.le_of_ble_eq_true rfl⟩ ⟨by omega, by omega⟩ dL_law_176) hS (fun v0 w0 H locs hp hW hS => ?_)
          obtain ⟨rfl, rfl⟩ := hp
          refine lv_iload hx hb dL_law_179 (lv_at hl 1 rfl) ?_
          refine lv_bipush (v := 6) hx hb dL_law_181 (by decide) ?_
          refine lv_ishr hx hb dL_law_183 ?_
          refine lv_iload hx hb dL_law_184 (lv_at hl 0 rfl) ?_
          obtain ⟨r18, Mw19, h20, h⟩ := bind2 h
          refine cBackL C.2.2.2.2.2.2.2.2 (runSU (As := [rf g (0), .int (r15), .int ((r8) >>> ((6) &&& 31)), .int (r11)]) (rest := []) C hW hS (c_L_acts l g Mw16 r15 ((r8) >>> ((6) &&& 31)) r11 _ _ h20) kS_L_acts ml_L_124 rfl hl.1 rfl (Nat.le_of_ble_eq_true rfl) ⟨Nat.le_of_ble_eq_true rfl, Nat.le_of_ble_eq_true rfl⟩ ⟨by omega, by omega⟩ dL_law_186) hS (fun v0 w0 H locs hp hW hS => ?_)
          obtain ⟨rfl, rfl⟩ := hp
          refine lv_if_eq (tgt := 249) hx hb dL_law_189 (by decide) (fun c21 => ?_) (fun c21 => ?_)
          · rw [if_pos c21] at h
            refine lv_iconst (v := 0) hx hb dL_law_249 (by decide) ?_
            cases h
          · rw [if_neg c21] at h
            obtain ⟨Mw22, h23, h⟩ := bind1 h
            refine t_L_law_192 l g C _ _ (by omega) (by omega) Mw19 z r8 r11 Mw22 h23 _ _ hW hS ls (lv_sub hl [2, 3, 4, 5, 1, 0] rfl) (fun H locs hW hS ls hl => ?_)
            obtain ⟨Mw24, h25, h⟩ := bind1 h
            refine t_L_law_252 l g C _ _ (by omega) (by omega) Mw22 z r11 Mw24 h25 _ _ hW hS ls (lv_sub hl [0, 1, 2, 3, 4] rfl) (fun H locs hW hS ls hl => ?_)
            refine lv_iinc (v := z + 1) (lv' := [(5, .int (z + 1)), (0, .ref sb), (1, rf g (0)), (4, .int (1))]) hx hb dL_law_355 hl (k := 3) rfl rfl (by decide) rfl (fun ls hl => ?_)
            refine lv_goto (tgt := 125) hx hb dL_law_358 (by decide) ?_
            exact ih Mw24 (z + 1) _ _ (by omega) (by omega) h _ _ hW hS ls (lv_sub hl [1, 2, 3, 0] rfl)
        · rw [if_neg c14] at h
          refine lv_iconst (v := 2) hx hb dL_law_166 (by decide) ?_
          refine lv_goto (tgt := 179) hx hb dL_law_167 (by decide) ?_
          refine lv_iload hx hb dL_law_179 (lv_at hl 1 rfl) ?_
          refine lv_bipush (v := 6) hx hb dL_law_181 (by decide) ?_
          refine lv_ishr hx hb dL_law_183 ?_
          refine lv_iload hx hb dL_law_184 (lv_at hl 0 rfl) ?_
          obtain ⟨r26, Mw27, h28, h⟩ := bind2 h
          refine cBackL C.2.2.2.2.2.2.2.2 (runSU (As := [rf g (0), .int (2), .int ((r8) >>> ((6) &&& 31)), .int (r11)]) (rest := []) C hW hS (c_L_acts l g M 2 ((r8) >>> ((6) &&& 31)) r11 _ _ h28) kS_L_acts ml_L_124 rfl hl.1 rfl (Nat.le_of_ble_eq_true rfl) ⟨Nat.le_of_ble_eq_true rfl, Nat.le_of_ble_eq_true rfl⟩ ⟨by omega, by omega⟩ dL_law_186) hS (fun v0 w0 H locs hp hW hS => ?_)
          obtain ⟨rfl, rfl⟩ := hp
          refine lv_if_eq (tgt := 249) hx hb dL_law_189 (by decide) (fun c29 => ?_) (fun c29 => ?_)
          · rw [if_pos c29] at h
            refine lv_iconst (v := 0) hx hb dL_law_249 (by decide) ?_
            cases h
          · rw [if_neg c29] at h
            obtain ⟨Mw30, h31, h⟩ := bind1 h
            refine t_L_law_192 l g C _ _ (by omega) (by omega) Mw27 z r8 r11 Mw30 h31 _ _ hW hS ls (lv_sub hl [2, 3, 4, 5, 1, 0] rfl) (fun H locs hW hS ls hl => ?_)
            obtain ⟨Mw32, h33, h⟩ := bind1 h
            refine t_L_law_252 l g C _ _ (by omega) (by omega) Mw30 z r11 Mw32 h33 _ _ hW hS ls (lv_sub hl [0, 1, 2, 3, 4] rfl) (fun H locs hW hS ls hl => ?_)
            refine lv_iinc (v := z + 1) (lv' := [(5, .int (z + 1)), (0, .ref sb), (1, rf g (0)), (4, .int (1))]) hx hb dL_law_355 hl (k := 3) rfl rfl (by decide) rfl (fun ls hl => ?_)
            refine lv_goto (tgt := 125) hx hb dL_law_358 (by decide) ?_
            exact ih Mw32 (z + 1) _ _ (by omega) (by omega) h _ _ hW hS ls (lv_sub hl [1, 2, 3, 0] rfl)
def f_L_law (M : MM) (xs : Nat → Int32) (L : Nat) : Option Unit := (bnd1 (f_L_cell xs L 90) fun r1 => (bnd2 (f_L_low M r1 4000) fun r4 Mw5 => (bnd1 (f_L_cell xs L 91) fun r7 => (bnd2 (f_L_low Mw5 r7 1400) fun r10 Mw11 => (bnd2 (f_X10_undo Mw11 ) fun r13 Mw14 => (if (r13 : Int32) = (-2 : Int32) then (bnd2 (f_L_refused Mw14 ) fun r17 Mw18 => (if (r17 : Int32) = 0 then none else (bnd2 (f_L_fits Mw18 ) fun r21 Mw22 => (if (r21 : Int32) = 0 then none else (bnd2 (f_X10_buy Mw22 0 20000) fun r25 Mw26 => (if (r25 : Int32) = (20000 : Int32) then (bnd2 (f_X10_buy Mw26 1 6000) fun r29 Mw30 => (if (r29 : Int32) = (6000 : Int32) then (bnd2 (f_X10_charge Mw30 0 ((9000) + (r4))) fun r33 Mw34 => (if (r33 : Int32) = ((9000) + (r4) : Int32) then (bnd2 (f_X10_charge Mw34 1 ((2000) + (r10))) fun r37 Mw38 => (if (r37 : Int32) = (((9000) + (r4)) + ((2000) + (r10)) : Int32) then (lp_L_law_125 FU Mw38 xs L (0)) else none)) else none)) else none)) else none)))))) else none))))))
set_option maxHeartbeats 8000000 in
set_option maxRecDepth 100000 in
theorem t_L_law_8 (l : Launch) (g : GD) {p : Program} {e : Env} {s : State} {m : MethodId} {av : Array Value} {below : List Frame} {meth : Method} {c : Code} {Q : State → Prop} {sb L : Nat} {xs : Nat → Int32} (C : CX p s m av c cL_law 10 RL g) (hX : va_X sb L xs s s.heap) (hbl : sb < s.heap.size) (hbA : ¬ AU g sb) (kx : ∀ (H : Heap) (locs : List Loc) (ls : Array Slot) (cells slots : Nat), cells ≤ room_1.cells → slots ≤ room_1.slots → sU g s H locs → W p l e room_1 s m av below meth c H locs cells slots Q (F0 m 378 ls [.int 1])) (M : MM) (cells slots : Nat) (hc1 : cells + FU ≤ room_1.cells) (hc2 : slots + 12 * FU ≤ room_1.slots) (h : f_L_law M xs L = some ()) : ∀ (H : Heap) (locs : List Loc), Wd g M H → sU g s H locs → ∀ ls : Array Slot, lv_has ls 10 [(1, rf g (0)), (0, .ref sb)] → W p l e room_1 s m av below meth c H locs cells slots Q (F0 m 8 ls []) := by
  have hx := C.1
  have hb := C.2.1
  have hts := C.2.2.2.2.1
  intro H locs hW hS ls hl
  unfold f_L_law at h
  refine lv_sipush (v := 9000) hx hb dL_law_8 (by decide) ?_
  refine lv_aload_n hx hb dL_law_11 rfl (lv_at hl 1 rfl) ?_
  refine lv_bipush (v := 90) hx hb dL_law_12 (by decide) ?_
  obtain ⟨r1, h3, h⟩ := bind1 h
  refine cBackL C.2.2.2.2.2.2.2.2 (runSX (As := [.ref sb, .int (90)]) (rest := [.int (9000)]) C hX hbl hbA hW hS (c_L_cell l g M sb L xs 90 _ h3) kS_L_cell ml_L_114 rfl hl.1 rfl (Nat.le_of_ble_eq_true rfl) ⟨Nat.le_of_ble_eq_true rfl, Nat.le_of_ble_eq_true rfl⟩ ⟨by omega, by omega⟩ dL_law_14) hS (fun v0 w0 H locs hp hW hS => ?_)
  obtain ⟨rfl, rfl⟩ := hp
  refine lv_sipush (v := 4000) hx hb dL_law_17 (by decide) ?_
  obtain ⟨r4, Mw5, h6, h⟩ := bind2 h
  refine cBackL C.2.2.2.2.2.2.2.2 (runSU (As := [.int (r1), .int (4000)]) (rest := [.int (9000)]) C hW hS (c_L_low l g M r1 4000 _ _ h6) kS_L_low ml_L_96 rfl hl.1 rfl (Nat.le_of_ble_eq_true rfl) ⟨Nat.le_of_ble_eq_true rfl, Nat.le_of_ble_eq_true rfl⟩ ⟨by omega, by omega⟩ dL_law_20) hS (fun v0 w0 H locs hp hW hS => ?_)
  obtain ⟨rfl, rfl⟩ := hp
  refine lv_iadd hx hb dL_law_23 ?_
  refine lv_istore_n (lv' := [(2, .int ((9000) + (r4))), (1, rf g (0)), (0, .ref sb)]) hx hb dL_law_24 rfl hl (by decide) rfl (fun ls hl => ?_)
  refine lv_sipush (v := 2000) hx hb dL_law_25 (by decide) ?_
  refine lv_aload_n hx hb dL_law_28 rfl (lv_at hl 2 rfl) ?_
  refine lv_bipush (v := 91) hx hb dL_law_29 (by decide) ?_
  obtain ⟨r7, h9, h⟩ := bind1 h
  refine cBackL C.2.2.2.2.2.2.2.2 (runSX (As := [.ref sb, .int (91)]) (rest := [.int (2000)]) C hX hbl hbA hW hS (c_L_cell l g Mw5 sb L xs 91 _ h9) kS_L_cell ml_L_114 rfl hl.1 rfl (Nat.le_of_ble_eq_true rfl) ⟨Nat.le_of_ble_eq_true rfl, Nat.le_of_ble_eq_true rfl⟩ ⟨by omega, by omega⟩ dL_law_31) hS (fun v0 w0 H locs hp hW hS => ?_)
  obtain ⟨rfl, rfl⟩ := hp
  refine lv_sipush (v := 1400) hx hb dL_law_34 (by decide) ?_
  obtain ⟨r10, Mw11, h12, h⟩ := bind2 h
  refine cBackL C.2.2.2.2.2.2.2.2 (runSU (As := [.int (r7), .int (1400)]) (rest := [.int (2000)]) C hW hS (c_L_low l g Mw5 r7 1400 _ _ h12) kS_L_low ml_L_96 rfl hl.1 rfl (Nat.le_of_ble_eq_true rfl) ⟨Nat.le_of_ble_eq_true rfl, Nat.le_of_ble_eq_true rfl⟩ ⟨by omega, by omega⟩ dL_law_37) hS (fun v0 w0 H locs hp hW hS => ?_)
  obtain ⟨rfl, rfl⟩ := hp
  refine lv_iadd hx hb dL_law_40 ?_
  refine lv_istore_n (lv' := [(3, .int ((2000) + (r10))), (2, .int ((9000) + (r4))), (1, rf g (0)), (0, .ref sb)]) hx hb dL_law_41 rfl hl (by decide) rfl (fun ls hl => ?_)
  refine lv_aload_n hx hb dL_law_42 rfl (lv_at hl 2 rfl) ?_
  obtain ⟨r13, Mw14, h15, h⟩ := bind2 h
  refine cBackC C.2.2.2.2.2.2.2.2 (runVU (As := []) (rest := []) C hW hS (c_X10_undo l g Mw11  _ _ h15) kV_X10_undo ml_L_99 (by decide) tm_BF rfl rfl rfl hl.1 rfl (Nat.le_of_ble_eq_true rfl) ⟨Nat.le_of_ble_eq_true rfl, Nat.le_of_ble_eq_true rfl⟩ ⟨by omega, by omega⟩ dL_law_43) hS (fun v0 w0 H locs hp hW hS hq => ?_)
  obtain ⟨rfl, rfl⟩ := hp
  refine lv_bipush (v := -2) hx hb dL_law_46 (by decide) ?_
  refine lv_icmp_ne (tgt := 119) hx hb dL_law_48 (by decide) (fun c16 => ?_) (fun c16 => ?_)
  · rw [if_neg c16] at h
    refine lv_iconst (v := 0) hx hb dL_law_119 (by decide) ?_
    cases h
  · rw [if_pos c16] at h
    refine lv_aload_n hx hb dL_law_51 rfl (lv_at hl 2 rfl) ?_
    obtain ⟨r17, Mw18, h19, h⟩ := bind2 h
    refine cBackL C.2.2.2.2.2.2.2.2 (runSU (As := [rf g (0)]) (rest := []) C hW hS (c_L_refused l g Mw14  _ _ h19) kS_L_refused ml_L_118 rfl hl.1 rfl (Nat.le_of_ble_eq_true rfl) ⟨Nat.le_of_ble_eq_true rfl, Nat.le_of_ble_eq_true rfl⟩ ⟨by omega, by omega⟩ dL_law_52) hS (fun v0 w0 H locs hp hW hS => ?_)
    obtain ⟨rfl, rfl⟩ := hp
    refine lv_if_eq (tgt := 119) hx hb dL_law_55 (by decide) (fun c20 => ?_) (fun c20 => ?_)
    · rw [if_pos c20] at h
      refine lv_iconst (v := 0) hx hb dL_law_119 (by decide) ?_
      cases h
    · rw [if_neg c20] at h
      refine lv_aload_n hx hb dL_law_58 rfl (lv_at hl 2 rfl) ?_
      obtain ⟨r21, Mw22, h23, h⟩ := bind2 h
      refine cBackL C.2.2.2.2.2.2.2.2 (runSU (As := [rf g (0)]) (rest := []) C hW hS (c_L_fits l g Mw18  _ _ h23) kS_L_fits ml_L_121 rfl hl.1 rfl (Nat.le_of_ble_eq_true rfl) ⟨Nat.le_of_ble_eq_true rfl, Nat.le_of_ble_eq_true rfl⟩ ⟨by omega, by omega⟩ dL_law_59) hS (fun v0 w0 H locs hp hW hS => ?_)
      obtain ⟨rfl, rfl⟩ := hp
      refine lv_if_eq (tgt := 119) hx hb dL_law_62 (by decide) (fun c24 => ?_) (fun c24 => ?_)
      · rw [if_pos c24] at h
        refine lv_iconst (v := 0) hx hb dL_law_119 (by decide) ?_
        cases h
      · rw [if_neg c24] at h
        refine lv_aload_n hx hb dL_law_65 rfl (lv_at hl 2 rfl) ?_
        refine lv_iconst (v := 0) hx hb dL_law_66 (by decide) ?_
        refine lv_sipush (v := 20000) hx hb dL_law_67 (by decide) ?_
        obtain ⟨r25, Mw26, h27, h⟩ := bind2 h
        refine cBackC C.2.2.2.2.2.2.2.2 (runVU (As := [.int (0), .int (20000)]) (rest := []) C hW hS (c_X10_buy l g Mw22 0 20000 _ _ h27) kV_X10_buy ml_L_38 (by decide) tm_BF rfl rfl rfl hl.1 rfl (Nat.le_of_ble_eq_true rfl) ⟨Nat.le_of_ble_eq_true rfl, Nat.le_of_ble_eq_true rfl⟩ ⟨by omega, by omega⟩ dL_law_70) hS (fun v0 w0 H locs hp hW hS hq => ?_)
        obtain ⟨rfl, rfl⟩ := hp
        refine lv_sipush (v := 20000) hx hb dL_law_73 (by decide) ?_
        refine lv_icmp_ne (tgt := 119) hx hb dL_law_76 (by decide) (fun c28 => ?_) (fun c28 => ?_)
        · rw [if_neg c28] at h
          refine lv_iconst (v := 0) hx hb dL_law_119 (by decide) ?_
          cases h
        · rw [if_pos c28] at h
          refine lv_aload_n hx hb dL_law_79 rfl (lv_at hl 2 rfl) ?_
          refine lv_iconst (v := 1) hx hb dL_law_80 (by decide) ?_
          refine lv_sipush (v := 6000) hx hb dL_law_81 (by decide) ?_
          obtain ⟨r29, Mw30, h31, h⟩ := bind2 h
          refine cBackC C.2.2.2.2.2.2.2.2 (runVU (As := [.int (1), .int (6000)]) (rest := []) C hW hS (c_X10_buy l g Mw26 1 6000 _ _ h31) kV_X10_buy ml_L_38 (by decide) tm_BF rfl rfl rfl hl.1 rfl (Nat.le_of_ble_eq_true rfl) ⟨Nat.le_of_ble_eq_true rfl, Nat.le_of_ble_eq_true rfl⟩ ⟨by omega, by omega⟩ dL_law_84) hS (fun v0 w0 H locs hp hW hS hq => ?_)
          obtain ⟨rfl, rfl⟩ := hp
          refine lv_sipush (v := 6000) hx hb dL_law_87 (by decide) ?_
          refine lv_icmp_ne (tgt := 119) hx hb dL_law_90 (by decide) (fun c32 => ?_) (fun c32 => ?_)
          · rw [if_neg c32] at h
            refine lv_iconst (v := 0) hx hb dL_law_119 (by decide) ?_
            cases h
          · rw [if_pos c32] at h
            refine lv_aload_n hx hb dL_law_93 rfl (lv_at hl 2 rfl) ?_
            refine lv_iconst (v := 0) hx hb dL_law_94 (by decide) ?_
            refine lv_iload_n hx hb dL_law_95 rfl (lv_at hl 1 rfl) ?_
            obtain ⟨r33, Mw34, h35, h⟩ := bind2 h
            refine cBackC C.2.2.2.2.2.2.2.2 (runVU (As := [.int (0), .int ((9000) + (r4))]) (rest := []) C hW hS (c_X10_charge l g Mw30 0 ((9000) + (r4)) _ _ h35) kV_X10_charge ml_L_41 (by decide) tm_BF rfl rfl rfl hl.1 rfl (Nat.le_of_ble_eq_true rfl) ⟨Nat.le_of_ble_eq_true rfl, Nat.le_of_ble_eq_true rfl⟩ ⟨by omega, by omega⟩ dL_law_96) hS (fun v0 w0 H locs hp hW hS hq => ?_)
            obtain ⟨rfl, rfl⟩ := hp
            refine lv_iload_n hx hb dL_law_99 rfl (lv_at hl 1 rfl) ?_
            refine lv_icmp_ne (tgt := 119) hx hb dL_law_100 (by decide) (fun c36 => ?_) (fun c36 => ?_)
            · rw [if_neg c36] at h
              refine lv_iconst (v := 0) hx hb dL_law_119 (by decide) ?_
              cases h
            · rw [if_pos c36] at h
              refine lv_aload_n hx hb dL_law_103 rfl (lv_at hl 2 rfl) ?_
              refine lv_iconst (v := 1) hx hb dL_law_104 (by decide) ?_
              refine lv_iload_n hx hb dL_law_105 rfl (lv_at hl 0 rfl) ?_
              obtain ⟨r37, Mw38, h39, h⟩ := bind2 h
              refine cBackC C.2.2.2.2.2.2.2.2 (runVU (As := [.int (1), .int ((2000) + (r10))]) (rest := []) C hW hS (c_X10_charge l g Mw34 1 ((2000) + (r10)) _ _ h39) kV_X10_charge ml_L_41 (by decide) tm_BF rfl rfl rfl hl.1 rfl (Nat.le_of_ble_eq_true rfl) ⟨Nat.le_of_ble_eq_true rfl, Nat.le_of_ble_eq_true rfl⟩ ⟨by omega, by omega⟩ dL_law_106) hS (fun v0 w0 H locs hp hW hS hq => ?_)
              obtain ⟨rfl, rfl⟩ := hp
              refine lv_iload_n hx hb dL_law_109 rfl (lv_at hl 1 rfl) ?_
              refine lv_iload_n hx hb dL_law_110 rfl (lv_at hl 0 rfl) ?_
              refine lv_iadd hx hb dL_law_111 ?_
              refine lv_icmp_ne (tgt := 119) hx hb dL_law_112 (by decide) (fun c40 => ?_) (fun c40 => ?_)
              · rw [if_neg c40] at h
                refine lv_iconst (v := 0) hx hb dL_law_119 (by decide) ?_
                cases h
              · rw [if_pos c40] at h
                refine lv_iconst (v := 1) hx hb dL_law_115 (by decide) ?_
                refine lv_goto (tgt := 120) hx hb dL_law_116 (by decide) ?_
                refine lv_istore (lv' := [(4, .int (1)), (3, .int ((2000) + (r10))), (2, .int ((9000) + (r4))), (1, rf g (0)), (0, .ref sb)]) hx hb dL_law_120 hl (by decide) rfl (fun ls hl => ?_)
                refine lv_iconst (v := 0) hx hb dL_law_122 (by decide) ?_
                refine lv_istore (lv' := [(5, .int (0)), (4, .int (1)), (3, .int ((2000) + (r10))), (2, .int ((9000) + (r4))), (1, rf g (0)), (0, .ref sb)]) hx hb dL_law_123 hl (by decide) rfl (fun ls hl => ?_)
                exact t_L_law_125 l g C hX hbl hbA kx FU Mw38 (0) _ _ hc1 hc2 h _ _ hW hS ls (lv_sub hl [5, 4, 1, 0] rfl)
