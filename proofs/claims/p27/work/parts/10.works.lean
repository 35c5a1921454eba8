def cpyS (M : MM) (k k' : Nat) : MM := up2 (up2 (up2 (up2 (up2 (up2 (up2 M (40 + k') 0 (M (40 + k) 0)) (40 + k') 1 (M (40 + k) 1)) (40 + k') 2 (M (40 + k) 2)) (40 + k') 3 (M (40 + k) 3)) (40 + k') 4 (M (40 + k) 4)) (40 + k') 5 (M (40 + k) 5)) (40 + k') 6 (M (40 + k) 6)
theorem cpyS_upd {g : GD} {M : MM} {k k' : Nat} (hk : k < 5) (hk' : k' < 5) : UPD g M (cpyS M k k') (wB k' + 31) (aI g 7 (va_cpy (M (40 + k)) (M (40 + k')) 0 0 7)) := by
  refine ⟨?_, fun q hq hn => ?_⟩
  · rw [tm_settings hk']
    have e : cpyS M k k' (40 + k') = va_cpy (M (40 + k)) (M (40 + k')) 0 0 7 := by
      unfold cpyS
      simp only [up2_gr]
      funext j
      unfold va_cpy upd
      rcases j with _ | _ | _ | _ | _ | _ | _ | j <;> simp <;> omega
    rw [e]
  · have hn : q ≠ ob (40 + k') := by rw [ob40 hk']; exact hn
    unfold cpyS
    rw [tm_upG (by omega) hq hn, tm_upG (by omega) hq hn, tm_upG (by omega) hq hn, tm_upG (by omega) hq hn, tm_upG (by omega) hq hn, tm_upG (by omega) hq hn, tm_upG (by omega) hq hn]
theorem rCopyS {p : Program} {l : Launch} {e : Env} {R : Room} {s : State} {m : MethodId} {args : Array Value} {below : List Frame} {meth : Method} {c : Code} {H : Heap} {locs : List Loc} {cells slots : Nat} {Q : State → Prop} {cc : ByteArray} {pc : Nat} {ls : Array Slot} {g : GD} {M : MM} {nL : Nat} {own : String} (C : CX p s m args c cc nL own g) (hW : Wd g M H) (hS : sS g s H locs) {k k' index : Nat} (hk : k < 5) (hk' : k' < 5) (hml : nL = ls.size) (hl : Cond.methodLink own index arraycopyName ∈ WW) (hf : 1 ≤ R.frames) (hlo : 18 ≤ R.locals) (hd : decode cc pc = .ok (.invokestatic index, 3))
    (kk : ∀ (H1 : Heap) (locs1 : List Loc), Wd g (cpyS M k k') H1 → sS g s H1 locs1 → W p l e R s m args below meth c H1 locs1 cells slots Q (F0 m (pc + 3) ls [])) : W p l e R s m args below meth c H locs cells slots Q (F0 m pc ls [.int 7, .int 0, rf g (wB k' + 31), .int 0, rf g (wB k + 31)]) := by
  have hts := C.2.2.2.2.1
  refine va_copyi (f := M (40 + k)) (g := M (40 + k')) C.1 C.2.1 (C.2.2.1.trans hml) C.2.2.2.1 (hts _ hl) (hts _ nt_acopy) (hts _ st_acopy) (hts _ in_J10) C.2.2.2.2.2.1 hW (wlN_DA _ _) hS (wB k + 31) (wB k' + 31) 0 0 (by rw [wlN_get (wB_lt hk (by decide)), tm_settings hk]) (by rw [wlN_get (wB_lt hk' (by decide)), tm_settings hk']) rfl rfl rfl (by decide) (by decide) (by decide) (by decide) (by decide) (fun i hi => rfl) hf (Nat.le_trans (by decide +kernel) hlo) hd (fun H1 locs1 hP _ hS1 => kk H1 locs1 ?_ hS1)
  have hu := cpyS_upd (g := g) (M := M) hk hk'
  rw [show (0 : Int32).toNatClampNeg = 0 from by decide, show (7 : Int32).toNatClampNeg = 7 from by decide] at hP
  rw [wlN_set (z := zz g) hu.1 hu.2] at hP
  exact hP
def lp_X2_of_4 (fu : Nat) (M : MM) (k : Nat) (x : Int32) (u : Int32) (z : Int32) : Option (Int32 × MM) := match fu with
  | 0 => none
  | n + 1 => (if (M k 8 : Int32) ≤ (z : Int32) then some (u, M) else (if vin (z) 12 then (if (M (50 + k) (z : Int32).toNatClampNeg).toNatClampNeg < 12 then (bnd2 (f_X6_of M k (9 + 3 * (M (50 + k) (z : Int32).toNatClampNeg).toNatClampNeg) x) fun r1004 M1005 => (lp_X2_of_4 n M1005 k  x ((u) + (r1004)) (z + 1))) else none) else none))
def f_X2_of (M : MM) (k : Nat) (x : Int32) : Option (Int32 × MM) := (lp_X2_of_4 FU M k  x 0 0)
set_option maxHeartbeats 4000000 in
set_option maxRecDepth 100000 in
theorem t_X2_of_4 (l : Launch) (g : GD) {p : Program} {e : Env} {s : State} {m : MethodId} {av : Array Value} {below : List Frame} {meth : Method} {c : Code} (k : Nat) (hk : k < 5) (n : Nat) : ∀ (M : MM) (x : Int32) (u : Int32) (z : Int32) (r : Int32) (M2 : MM), lp_X2_of_4 n M k  x u z = some (r, M2) → CX p s m av c cX2_of 4 RX2 g → meth.sig.returnType = (some .int) → meth.locks = false → ∀ (H : Heap) (locs : List Loc), Wd g M H → sS g s H locs → ∀ ls : Array Slot, lv_has ls 4 [(0, rf g (wB k + 5)), (1, .int (x)), (2, .int (u)), (3, .int (z))] → W p l e (RM 1 21) s m av below meth c H locs 0 0 (MQ below (QQ g (fun v w0 => v = .int r ∧ M2 = w0)) av s 0 0 (AA g)) (F0 m 4 ls []) := by
  induction n with
  | zero => intro M x u z r M2 h; cases h
  | succ n ih0 =>
    intro M x u z r M2 h C hr hlk H locs hW hS ls hl
    have ih : ∀ (M : MM) (x : Int32) (u : Int32) (z : Int32), lp_X2_of_4 n M k  x u z = some (r, M2) → ∀ (H : Heap) (locs : List Loc), Wd g M H → sS g s H locs → ∀ ls : Array Slot, lv_has ls 4 [(0, rf g (wB k + 5)), (1, .int (x)), (2, .int (u)), (3, .int (z))] → W p l e (RM 1 21) s m av below meth c H locs 0 0 (MQ below (QQ g (fun v w0 => v = .int r ∧ M2 = w0)) av s 0 0 (AA g)) (F0 m 4 ls []) := fun M x u z h H locs hW hS ls hl => ih0 M x u z r M2 h C hr hlk H locs hW hS ls hl
    unfold lp_X2_of_4 at h
    try dsimp only at h
    have hx := C.1
    have hb := C.2.1
    have hts := C.2.2.2.2.1
    refine lv_iload_n hx hb dX2_of_4 rfl (lv_at hl 3 rfl) ?_
    refine lv_aload_n hx hb dX2_of_5 rfl (lv_at hl 0 rfl) ?_
    refine rGet (k := 1) C hW (wB_lt hk (by decide)) (tm_Heap hk) rfl inX2 (by decide) fl_X2_17 rfl dX2_of_6 ?_
    refine lv_icmp_ge (tgt := 34) hx hb dX2_of_9 (by decide) (fun c1001 => ?_) (fun c1001 => ?_)
    · rw [if_pos c1001] at h
      refine lv_iload_n hx hb dX2_of_34 rfl (lv_at hl 2 rfl) ?_
      cases h
      exact rI C hr hlk dX2_of_35 hW hS ⟨rfl, rfl⟩
    · rw [if_neg c1001] at h
      refine lv_iload_n hx hb dX2_of_12 rfl (lv_at hl 2 rfl) ?_
      refine lv_aload_n hx hb dX2_of_13 rfl (lv_at hl 0 rfl) ?_
      refine rGet (k := 0) C hW (wB_lt hk (by decide)) (tm_Heap hk) rfl inX2 (by decide) fl_X2_11 rfl dX2_of_14 ?_
      refine lv_iload_n hx hb dX2_of_17 rfl (lv_at hl 3 rfl) ?_
      have s1002 : vin (z) 12 := Classical.byContradiction fun q9 => by rw [if_neg q9] at h; cases h
      rw [if_pos s1002] at h
      have s1003 : (M (50 + k) (z : Int32).toNatClampNeg).toNatClampNeg < 12 := Classical.byContradiction fun q9 => by rw [if_neg q9] at h; cases h
      rw [if_pos s1003] at h
      refine rRld (j := 3) C hW (wB_lt hk (by decide)) (tm_row hk) rfl s1002 dX2_of_18 ?_
      refine rGetN (k := 0) C hW (wB_lt hk (by have := s1003; omega)) (tm_Lot hk s1003) rfl inX5 (by decide) fl_X2_32 rfl dX2_of_19 ?_
      refine lv_iload_n hx hb dX2_of_22 rfl (lv_at hl 1 rfl) ?_
      obtain ⟨r1004, M1005, h1006, h⟩ := bind2 h
      refine cBack C.2.2.2.2.2.2.2.2 (runV (As := [.int (x)]) (rest := [.int (u)]) C hW hS (c_X6_of l g M (wB k + (8 + 2 * (M (50 + k) (z : Int32).toNatClampNeg).toNatClampNeg)) k (9 + 3 * (M (50 + k) (z : Int32).toNatClampNeg).toNatClampNeg) x (MX_lot hk s1003) _ _ h1006) kV_X6_of ml_X2_46 (MX_lot hk s1003).lt (MX_lot hk s1003).cel rfl rfl rfl hl.1 rfl (Nat.le_of_ble_eq_true rfl) ⟨Nat.le_of_ble_eq_true rfl, Nat.le_of_ble_eq_true rfl⟩ ⟨Nat.zero_le _, Nat.zero_le _⟩ dX2_of_23) hS (fun v0 w0 H locs hp hW hS => ?_)
      obtain ⟨rfl, rfl⟩ := hp
      refine lv_iadd hx hb dX2_of_26 ?_
      refine lv_istore_n (lv' := [(2, .int ((u) + (r1004))), (0, rf g (wB k + 5)), (1, .int (x)), (3, .int (z))]) hx hb dX2_of_27 rfl hl (by decide) rfl (fun ls hl => ?_)
      refine lv_iinc (v := z + 1) (lv' := [(3, .int (z + 1)), (2, .int ((u) + (r1004))), (0, rf g (wB k + 5)), (1, .int (x))]) hx hb dX2_of_28 hl (k := 3) rfl rfl (by decide) rfl (fun ls hl => ?_)
      refine lv_goto (tgt := 4) hx hb dX2_of_31 (by decide) ?_
      exact ih M1005 x ((u) + (r1004)) (z + 1) h _ _ hW hS ls (lv_sub hl [2, 3, 1, 0] rfl)
set_option maxHeartbeats 4000000 in
set_option maxRecDepth 100000 in
theorem c_X2_of (l : Launch) (g : GD) (M : MM) (k : Nat) (x : Int32) (hk : k < 5) (r : Int32) (M2 : MM) (h : f_X2_of M k x = some (r, M2)) : Met l yX2_of (wm yX2_of cX2_of 4 (some .int)) (RM 1 21) (va_Pc [rf g (wB k + 5), .int (x)] (WDp g M)) (QQ g (fun v w0 => v = .int r ∧ M2 = w0)) 0 0 (AA g) := by
  refine mkM (by decide +kernel) (Nat.le_of_ble_eq_true rfl) ?_
  intro p e s m below meth c C hr hlk hW hS ls hl
  have hl : lv_has ls 4 [(0, rf g (wB k + 5)), (1, .int (x))] := hl
  have hx := C.1
  have hb := C.2.1
  have hts := C.2.2.2.2.1
  unfold f_X2_of at h
  refine lv_iconst (v := 0) hx hb dX2_of_0 (by decide) ?_
  refine lv_istore_n (lv' := [(2, .int (0)), (0, rf g (wB k + 5)), (1, .int (x))]) hx hb dX2_of_1 rfl hl (by decide) rfl (fun ls hl => ?_)
  refine lv_iconst (v := 0) hx hb dX2_of_2 (by decide) ?_
  refine lv_istore_n (lv' := [(3, .int (0)), (2, .int (0)), (0, rf g (wB k + 5)), (1, .int (x))]) hx hb dX2_of_3 rfl hl (by decide) rfl (fun ls hl => ?_)
  exact t_X2_of_4 l g k hk   FU M x 0 0 _ _ h C hr hlk _ _ hW hS ls (lv_sub hl [2, 3, 1, 0] rfl)
def f_X2_at (M : MM) (k : Nat) (x : Int32) : Option (Option Nat × MM) := (bnd2 (f_X10_isIn M x 0 ((M k 8) - (1))) fun r1 M2 => (if (r1 : Int32) = 0 then some (none, M2) else (if vin (x) 12 then (if (M2 (50 + k) (x : Int32).toNatClampNeg).toNatClampNeg < 12 then some (some ((M2 (50 + k) (x : Int32).toNatClampNeg).toNatClampNeg), M2) else none) else none)))
set_option maxHeartbeats 4000000 in
set_option maxRecDepth 100000 in
theorem c_X2_at (l : Launch) (g : GD) (M : MM) (k : Nat) (x : Int32) (hk : k < 5) (r : Option Nat) (M2 : MM) (h : f_X2_at M k x = some (r, M2)) : Met l yX2_at (wm yX2_at cX2_at 2 (some (.object "BellFoundry$Lot"))) (RM 1 22) (va_Pc [rf g (wB k + 5), .int (x)] (WDp g M)) (QQ g (fun v w0 => v = vLot g k r ∧ M2 = w0 ∧ ∀ j, r = some j → j < 12)) 0 0 (AA g) := by
  refine mkM (by decide +kernel) (Nat.le_of_ble_eq_true rfl) ?_
  intro p e s m below meth c C hr hlk hW hS ls hl
  have hl : lv_has ls 2 [(0, rf g (wB k + 5)), (1, .int (x))] := hl
  have hx := C.1
  have hb := C.2.1
  have hts := C.2.2.2.2.1
  unfold f_X2_at at h
  refine lv_iload_n hx hb dX2_at_0 rfl (lv_at hl 1 rfl) ?_
  refine lv_iconst (v := 0) hx hb dX2_at_1 (by decide) ?_
  refine lv_aload_n hx hb dX2_at_2 rfl (lv_at hl 0 rfl) ?_
  refine rGet (k := 1) C hW (wB_lt hk (by decide)) (tm_Heap hk) rfl inX2 (by decide) fl_X2_17 rfl dX2_at_3 ?_
  refine lv_iconst (v := 1) hx hb dX2_at_6 (by decide) ?_
  refine lv_isub hx hb dX2_at_7 ?_
  obtain ⟨r1, M2, h3, h⟩ := bind2 h
  refine cBack C.2.2.2.2.2.2.2.2 (runSN (As := [.int (x), .int (0), .int ((M k 8) - (1))]) (rest := []) C hW hS (c_X10_isIn l g M x 0 ((M k 8) - (1)) _ _ h3) kS_X10_isIn ml_X2_22 rfl hl.1 rfl (Nat.le_of_ble_eq_true rfl) ⟨Nat.le_of_ble_eq_true rfl, Nat.le_of_ble_eq_true rfl⟩ ⟨Nat.zero_le _, Nat.zero_le _⟩ dX2_at_8) hS (fun v0 w0 H locs hp hW hS => ?_)
  obtain ⟨rfl, rfl, zr1⟩ := hp
  refine lv_if_eq (tgt := 23) hx hb dX2_at_11 (by decide) (fun c4 => ?_) (fun c4 => ?_)
  · rw [if_pos c4] at h
    refine lv_null hx hb dX2_at_23 ?_
    cases h
    exact rA C hr hlk dX2_at_24 hW hS (Or.inl rfl) ⟨rfl, rfl, fun j e => by cases e⟩
  · rw [if_neg c4] at h
    refine lv_aload_n hx hb dX2_at_14 rfl (lv_at hl 0 rfl) ?_
    refine rGet (k := 0) C hW (wB_lt hk (by decide)) (tm_Heap hk) rfl inX2 (by decide) fl_X2_11 rfl dX2_at_15 ?_
    refine lv_iload_n hx hb dX2_at_18 rfl (lv_at hl 1 rfl) ?_
    have s5 : vin (x) 12 := Classical.byContradiction fun q9 => by rw [if_neg q9] at h; cases h
    rw [if_pos s5] at h
    have s6 : (M2 (50 + k) (x : Int32).toNatClampNeg).toNatClampNeg < 12 := Classical.byContradiction fun q9 => by rw [if_neg q9] at h; cases h
    rw [if_pos s6] at h
    refine rRld (j := 3) C hW (wB_lt hk (by decide)) (tm_row hk) rfl s5 dX2_at_19 ?_
    refine lv_goto (tgt := 24) hx hb dX2_at_20 (by decide) ?_
    cases h
    exact rA C hr hlk dX2_at_24 hW hS (Or.inr ⟨_, rfl⟩) ⟨rfl, rfl, fun j e => by cases e; exact s6⟩
def f_X2_add (M : MM) (k : Nat) (G2 : Nat) (i2 : Nat) (x : Int32) : Option (Unit × MM) := (bnd2 (f_X6_weight M G2 i2) fun r1 M2 => (if (r1 : Int32) = 0 then some ((), M2) else (if (12 : Int32) ≤ (M2 k 8 : Int32) then (if vin ((M2 k 8) - (1)) 12 then (if (M2 (50 + k) ((M2 k 8) - (1) : Int32).toNatClampNeg).toNatClampNeg < 12 then (bnd2 (f_X6_mixWith M2 k (9 + 3 * (M2 (50 + k) ((M2 k 8) - (1) : Int32).toNatClampNeg).toNatClampNeg) G2 i2) fun r8 M9 => some ((), M9)) else none) else none) else (if vin (M2 k 8) 12 then (if (M2 (50 + k) (M2 k 8 : Int32).toNatClampNeg).toNatClampNeg < 12 then (bnd2 (f_X6_empty M2 k (9 + 3 * (M2 (50 + k) (M2 k 8 : Int32).toNatClampNeg).toNatClampNeg)) fun r13 M14 => (if vin (M14 k 8) 12 then (if (M14 (50 + k) (M14 k 8 : Int32).toNatClampNeg).toNatClampNeg < 12 then (letB (up2 M14 k (11 + 3 * (M14 (50 + k) (M14 k 8 : Int32).toNatClampNeg).toNatClampNeg) (x)) fun M18 => (letB (up2 M18 k 8 ((M18 k 8) + (1))) fun M19 => (if vin ((M19 k 8) - (1)) 12 then (if (M19 (50 + k) ((M19 k 8) - (1) : Int32).toNatClampNeg).toNatClampNeg < 12 then (bnd2 (f_X6_mixWith M19 k (9 + 3 * (M19 (50 + k) ((M19 k 8) - (1) : Int32).toNatClampNeg).toNatClampNeg) G2 i2) fun r22 M23 => some ((), M23)) else none) else none))) else none) else none)) else none) else none))))
set_option maxHeartbeats 4000000 in
set_option maxRecDepth 100000 in
theorem c_X2_add (l : Launch) (g : GD) (M : MM) (k : Nat) (o2 : Nat) (G2 : Nat) (i2 : Nat) (x : Int32) (hk : k < 5) (hm2 : MX o2 G2 i2) (r : Unit) (M2 : MM) (h : f_X2_add M k G2 i2 x = some (r, M2)) : Met l yX2_add (wm yX2_add cX2_add 3 none) (RM 1 21) (va_Pc [rf g (wB k + 5), rf g (o2), .int (x)] (WDp g M)) (QV g (fun w0 => M2 = w0)) 0 0 (AA g) := by
  refine mkM (by decide +kernel) (Nat.le_of_ble_eq_true rfl) ?_
  intro p e s m below meth c C hr hlk hW hS ls hl
  have hl : lv_has ls 3 [(0, rf g (wB k + 5)), (1, rf g (o2)), (2, .int (x))] := hl
  have hx := C.1
  have hb := C.2.1
  have hts := C.2.2.2.2.1
  unfold f_X2_add at h
  refine lv_aload_n hx hb dX2_add_0 rfl (lv_at hl 1 rfl) ?_
  obtain ⟨r1, M2, h3, h⟩ := bind2 h
  refine cBack C.2.2.2.2.2.2.2.2 (runV (As := []) (rest := []) C hW hS (c_X6_weight l g M o2 G2 i2 hm2 _ _ h3) kV_X6_weight ml_X2_26 hm2.lt hm2.cel rfl rfl rfl hl.1 rfl (Nat.le_of_ble_eq_true rfl) ⟨Nat.le_of_ble_eq_true rfl, Nat.le_of_ble_eq_true rfl⟩ ⟨Nat.zero_le _, Nat.zero_le _⟩ dX2_add_1) hS (fun v0 w0 H locs hp hW hS => ?_)
  obtain ⟨rfl, rfl⟩ := hp
  refine lv_if_ne (tgt := 8) hx hb dX2_add_4 (by decide) (fun c4 => ?_) (fun c4 => ?_)
  · rw [if_neg c4] at h
    refine lv_aload_n hx hb dX2_add_8 rfl (lv_at hl 0 rfl) ?_
    refine rGet (k := 1) C hW (wB_lt hk (by decide)) (tm_Heap hk) rfl inX2 (by decide) fl_X2_17 rfl dX2_add_9 ?_
    refine lv_aload_n hx hb dX2_add_12 rfl (lv_at hl 0 rfl) ?_
    refine rGet (k := 0) C hW (wB_lt hk (by decide)) (tm_Heap hk) rfl inX2 (by decide) fl_X2_11 rfl dX2_add_13 ?_
    refine rLenI (j := 3) (v := 12) C hW (wB_lt hk (by decide)) (tm_row hk) rfl (by decide) dX2_add_16 ?_
    refine lv_icmp_ge (tgt := 58) hx hb dX2_add_17 (by decide) (fun c5 => ?_) (fun c5 => ?_)
    · rw [if_pos c5] at h
      refine lv_aload_n hx hb dX2_add_58 rfl (lv_at hl 0 rfl) ?_
      refine rGet (k := 0) C hW (wB_lt hk (by decide)) (tm_Heap hk) rfl inX2 (by decide) fl_X2_11 rfl dX2_add_59 ?_
      refine lv_aload_n hx hb dX2_add_62 rfl (lv_at hl 0 rfl) ?_
      refine rGet (k := 1) C hW (wB_lt hk (by decide)) (tm_Heap hk) rfl inX2 (by decide) fl_X2_17 rfl dX2_add_63 ?_
      refine lv_iconst (v := 1) hx hb dX2_add_66 (by decide) ?_
      refine lv_isub hx hb dX2_add_67 ?_
      have s6 : vin ((M2 k 8) - (1)) 12 := Classical.byContradiction fun q9 => by rw [if_neg q9] at h; cases h
      rw [if_pos s6] at h
      have s7 : (M2 (50 + k) ((M2 k 8) - (1) : Int32).toNatClampNeg).toNatClampNeg < 12 := Classical.byContradiction fun q9 => by rw [if_neg q9] at h; cases h
      rw [if_pos s7] at h
      refine rRld (j := 3) C hW (wB_lt hk (by decide)) (tm_row hk) rfl s6 dX2_add_68 ?_
      refine rGetN (k := 0) C hW (wB_lt hk (by have := s7; omega)) (tm_Lot hk s7) rfl inX5 (by decide) fl_X2_32 rfl dX2_add_69 ?_
      refine lv_aload_n hx hb dX2_add_72 rfl (lv_at hl 1 rfl) ?_
      obtain ⟨r8, M9, h10, h⟩ := bind2 h
      refine cBackV C.2.2.2.2.2.2.2.2 (runV (As := [rf g (o2)]) (rest := []) C hW hS (c_X6_mixWith l g M2 (wB k + (8 + 2 * (M2 (50 + k) ((M2 k 8) - (1) : Int32).toNatClampNeg).toNatClampNeg)) k (9 + 3 * (M2 (50 + k) ((M2 k 8) - (1) : Int32).toNatClampNeg).toNatClampNeg) o2 G2 i2 (MX_lot hk s7) hm2 _ _ h10) kV_X6_mixWith ml_X2_42 (MX_lot hk s7).lt (MX_lot hk s7).cel rfl rfl rfl hl.1 rfl (Nat.le_of_ble_eq_true rfl) ⟨Nat.le_of_ble_eq_true rfl, Nat.le_of_ble_eq_true rfl⟩ ⟨Nat.zero_le _, Nat.zero_le _⟩ dX2_add_73) hS (fun v0 H locs hp hW hS => ?_)
      subst hp
      cases h
      exact rV C hr hlk dX2_add_76 hW hS rfl
    · rw [if_neg c5] at h
      refine lv_aload_n hx hb dX2_add_20 rfl (lv_at hl 0 rfl) ?_
      refine rGet (k := 0) C hW (wB_lt hk (by decide)) (tm_Heap hk) rfl inX2 (by decide) fl_X2_11 rfl dX2_add_21 ?_
      refine lv_aload_n hx hb dX2_add_24 rfl (lv_at hl 0 rfl) ?_
      refine rGet (k := 1) C hW (wB_lt hk (by decide)) (tm_Heap hk) rfl inX2 (by decide) fl_X2_17 rfl dX2_add_25 ?_
      have s11 : vin (M2 k 8) 12 := Classical.byContradiction fun q9 => by rw [if_neg q9] at h; cases h
      rw [if_pos s11] at h
      have s12 : (M2 (50 + k) (M2 k 8 : Int32).toNatClampNeg).toNatClampNeg < 12 := Classical.byContradiction fun q9 => by rw [if_neg q9] at h; cases h
      rw [if_pos s12] at h
      refine rRld (j := 3) C hW (wB_lt hk (by decide)) (tm_row hk) rfl s11 dX2_add_28 ?_
      refine rGetN (k := 0) C hW (wB_lt hk (by have := s12; omega)) (tm_Lot hk s12) rfl inX5 (by decide) fl_X2_32 rfl dX2_add_29 ?_
      obtain ⟨r13, M14, h15, h⟩ := bind2 h
      refine cBackV C.2.2.2.2.2.2.2.2 (runV (As := []) (rest := []) C hW hS (c_X6_empty l g M2 (wB k + (8 + 2 * (M2 (50 + k) (M2 k 8 : Int32).toNatClampNeg).toNatClampNeg)) k (9 + 3 * (M2 (50 + k) (M2 k 8 : Int32).toNatClampNeg).toNatClampNeg) (MX_lot hk s12) _ _ h15) kV_X6_empty ml_X2_36 (MX_lot hk s12).lt (MX_lot hk s12).cel rfl rfl rfl hl.1 rfl (Nat.le_of_ble_eq_true rfl) ⟨Nat.le_of_ble_eq_true rfl, Nat.le_of_ble_eq_true rfl⟩ ⟨Nat.zero_le _, Nat.zero_le _⟩ dX2_add_32) hS (fun v0 H locs hp hW hS => ?_)
      subst hp
      refine lv_aload_n hx hb dX2_add_35 rfl (lv_at hl 0 rfl) ?_
      refine rGet (k := 0) C hW (wB_lt hk (by decide)) (tm_Heap hk) rfl inX2 (by decide) fl_X2_11 rfl dX2_add_36 ?_
      refine lv_aload_n hx hb dX2_add_39 rfl (lv_at hl 0 rfl) ?_
      refine rGet (k := 1) C hW (wB_lt hk (by decide)) (tm_Heap hk) rfl inX2 (by decide) fl_X2_17 rfl dX2_add_40 ?_
      have s16 : vin (M14 k 8) 12 := Classical.byContradiction fun q9 => by rw [if_neg q9] at h; cases h
      rw [if_pos s16] at h
      have s17 : (M14 (50 + k) (M14 k 8 : Int32).toNatClampNeg).toNatClampNeg < 12 := Classical.byContradiction fun q9 => by rw [if_neg q9] at h; cases h
      rw [if_pos s17] at h
      refine rRld (j := 3) C hW (wB_lt hk (by decide)) (tm_row hk) rfl s16 dX2_add_43 ?_
      refine lv_iload_n hx hb dX2_add_44 rfl (lv_at hl 2 rfl) ?_
      refine rPutN (k := 1) C hW hS (wB_lt hk (by have := s17; omega)) (tm_Lot hk s17) rfl inX5 tyX5_ok nmX5 (by decide) fl_X2_39 rfl (by decide +kernel) (Nat.le_of_ble_eq_true rfl) (upd_Lot_kind hk s17 _) dX2_add_45 (fun H locs hW hS => ?_)
      have hW : Wd g (up2 M14 k (11 + 3 * (M14 (50 + k) (M14 k 8 : Int32).toNatClampNeg).toNatClampNeg) (x)) H := hW
      have h := letE h
      generalize up2 M14 k (11 + 3 * (M14 (50 + k) (M14 k 8 : Int32).toNatClampNeg).toNatClampNeg) (x) = M18 at hW h
      refine lv_aload_n hx hb dX2_add_48 rfl (lv_at hl 0 rfl) ?_
      refine lv_dup hx hb dX2_add_49 rfl ?_
      refine rGet (k := 1) C hW (wB_lt hk (by decide)) (tm_Heap hk) rfl inX2 (by decide) fl_X2_17 rfl dX2_add_50 ?_
      refine lv_iconst (v := 1) hx hb dX2_add_53 (by decide) ?_
      refine lv_iadd hx hb dX2_add_54 ?_
      refine rPut (k := 1) C hW hS (wB_lt hk (by decide)) (tm_Heap hk) rfl inX2 tyX2_ok nmX2 (by decide) fl_X2_17 rfl (by decide +kernel) (Nat.le_of_ble_eq_true rfl) (upd_Heap_size hk _) dX2_add_55 (fun H locs hW hS => ?_)
      have hW : Wd g (up2 M18 k 8 ((M18 k 8) + (1))) H := hW
      have h := letE h
      generalize up2 M18 k 8 ((M18 k 8) + (1)) = M19 at hW h
      refine lv_aload_n hx hb dX2_add_58 rfl (lv_at hl 0 rfl) ?_
      refine rGet (k := 0) C hW (wB_lt hk (by decide)) (tm_Heap hk) rfl inX2 (by decide) fl_X2_11 rfl dX2_add_59 ?_
      refine lv_aload_n hx hb dX2_add_62 rfl (lv_at hl 0 rfl) ?_
      refine rGet (k := 1) C hW (wB_lt hk (by decide)) (tm_Heap hk) rfl inX2 (by decide) fl_X2_17 rfl dX2_add_63 ?_
      refine lv_iconst (v := 1) hx hb dX2_add_66 (by decide) ?_
      refine lv_isub hx hb dX2_add_67 ?_
      have s20 : vin ((M19 k 8) - (1)) 12 := Classical.byContradiction fun q9 => by rw [if_neg q9] at h; cases h
      rw [if_pos s20] at h
      have s21 : (M19 (50 + k) ((M19 k 8) - (1) : Int32).toNatClampNeg).toNatClampNeg < 12 := Classical.byContradiction fun q9 => by rw [if_neg q9] at h; cases h
      rw [if_pos s21] at h
      refine rRld (j := 3) C hW (wB_lt hk (by decide)) (tm_row hk) rfl s20 dX2_add_68 ?_
      refine rGetN (k := 0) C hW (wB_lt hk (by have := s21; omega)) (tm_Lot hk s21) rfl inX5 (by decide) fl_X2_32 rfl dX2_add_69 ?_
      refine lv_aload_n hx hb dX2_add_72 rfl (lv_at hl 1 rfl) ?_
      obtain ⟨r22, M23, h24, h⟩ := bind2 h
      refine cBackV C.2.2.2.2.2.2.2.2 (runV (As := [rf g (o2)]) (rest := []) C hW hS (c_X6_mixWith l g M19 (wB k + (8 + 2 * (M19 (50 + k) ((M19 k 8) - (1) : Int32).toNatClampNeg).toNatClampNeg)) k (9 + 3 * (M19 (50 + k) ((M19 k 8) - (1) : Int32).toNatClampNeg).toNatClampNeg) o2 G2 i2 (MX_lot hk s21) hm2 _ _ h24) kV_X6_mixWith ml_X2_42 (MX_lot hk s21).lt (MX_lot hk s21).cel rfl rfl rfl hl.1 rfl (Nat.le_of_ble_eq_true rfl) ⟨Nat.le_of_ble_eq_true rfl, Nat.le_of_ble_eq_true rfl⟩ ⟨Nat.zero_le _, Nat.zero_le _⟩ dX2_add_73) hS (fun v0 H locs hp hW hS => ?_)
      subst hp
      cases h
      exact rV C hr hlk dX2_add_76 hW hS rfl
  · rw [if_pos c4] at h
    cases h
    exact rV C hr hlk dX2_add_7 hW hS rfl
def lp_X2_remove_26 (fu : Nat) (M : MM) (k : Nat) (cd : Int32) (x : Int32) (z : Int32) : Option (Unit × MM) := match fu with
  | 0 => none
  | n + 1 => (if (M k 8 : Int32) ≤ (z : Int32) then (letB (up2 M k 8 ((M k 8) - (1))) fun M1002 => (if vin (M1002 k 8) 12 then (letB (up2 M1002 (50 + k) (M1002 k 8 : Int32).toNatClampNeg (cd)) fun M1004 => some ((), M1004)) else none)) else (if vin (z) 12 then (if (M (50 + k) (z : Int32).toNatClampNeg).toNatClampNeg < 12 then (if vin ((z) - (1)) 12 then (letB (up2 M (50 + k) ((z) - (1) : Int32).toNatClampNeg (M (50 + k) (z : Int32).toNatClampNeg)) fun M1008 => (lp_X2_remove_26 n M1008 k cd x (z + 1))) else none) else none) else none))
def f_X2_remove (M : MM) (k : Nat) (x : Int32) : Option (Unit × MM) := (bnd2 (f_X10_isIn M x 0 ((M k 8) - (1))) fun r1 M2 => (if (r1 : Int32) = 0 then some ((), M2) else (if vin (x) 12 then (if (M2 (50 + k) (x : Int32).toNatClampNeg).toNatClampNeg < 12 then (lp_X2_remove_26 FU M2 k (M2 (50 + k) (x : Int32).toNatClampNeg) x ((x) + (1))) else none) else none)))
set_option maxHeartbeats 4000000 in
set_option maxRecDepth 100000 in
theorem t_X2_remove_26 (l : Launch) (g : GD) {p : Program} {e : Env} {s : State} {m : MethodId} {av : Array Value} {below : List Frame} {meth : Method} {c : Code} (k : Nat) (hk : k < 5) (cd : Int32) (hq : cd.toNatClampNeg < 12) (n : Nat) : ∀ (M : MM) (x : Int32) (z : Int32) (r : Unit) (M2 : MM), lp_X2_remove_26 n M k cd x z = some (r, M2) → CX p s m av c cX2_remove 4 RX2 g → meth.sig.returnType = none → meth.locks = false → ∀ (H : Heap) (locs : List Loc), Wd g M H → sS g s H locs → ∀ ls : Array Slot, lv_has ls 4 [(0, rf g (wB k + 5)), (1, .int (x)), (2, rf g (wB k + (7 + 2 * cd.toNatClampNeg))), (3, .int (z))] → W p l e (RM 1 22) s m av below meth c H locs 0 0 (MQ below (QV g (fun w0 => M2 = w0)) av s 0 0 (AA g)) (F0 m 26 ls []) := by
  induction n with
  | zero => intro M x z r M2 h; cases h
  | succ n ih0 =>
    intro M x z r M2 h C hr hlk H locs hW hS ls hl
    have ih : ∀ (M : MM) (x : Int32) (z : Int32), lp_X2_remove_26 n M k cd x z = some (r, M2) → ∀ (H : Heap) (locs : List Loc), Wd g M H → sS g s H locs → ∀ ls : Array Slot, lv_has ls 4 [(0, rf g (wB k + 5)), (1, .int (x)), (2, rf g (wB k + (7 + 2 * cd.toNatClampNeg))), (3, .int (z))] → W p l e (RM 1 22) s m av below meth c H locs 0 0 (MQ below (QV g (fun w0 => M2 = w0)) av s 0 0 (AA g)) (F0 m 26 ls []) := fun M x z h H locs hW hS ls hl => ih0 M x z r M2 h C hr hlk H locs hW hS ls hl
    unfold lp_X2_remove_26 at h
    try dsimp only at h
    have hx := C.1
    have hb := C.2.1
    have hts := C.2.2.2.2.1
    refine lv_iload_n hx hb dX2_remove_26 rfl (lv_at hl 3 rfl) ?_
    refine lv_aload_n hx hb dX2_remove_27 rfl (lv_at hl 0 rfl) ?_
    refine rGet (k := 1) C hW (wB_lt hk (by decide)) (tm_Heap hk) rfl inX2 (by decide) fl_X2_17 rfl dX2_remove_28 ?_
    refine lv_icmp_ge (tgt := 54) hx hb dX2_remove_31 (by decide) (fun c1001 => ?_) (fun c1001 => ?_)
    · rw [if_pos c1001] at h
      refine lv_aload_n hx hb dX2_remove_54 rfl (lv_at hl 0 rfl) ?_
      refine lv_dup hx hb dX2_remove_55 rfl ?_
      refine rGet (k := 1) C hW (wB_lt hk (by decide)) (tm_Heap hk) rfl inX2 (by decide) fl_X2_17 rfl dX2_remove_56 ?_
      refine lv_iconst (v := 1) hx hb dX2_remove_59 (by decide) ?_
      refine lv_isub hx hb dX2_remove_60 ?_
      refine rPut (k := 1) C hW hS (wB_lt hk (by decide)) (tm_Heap hk) rfl inX2 tyX2_ok nmX2 (by decide) fl_X2_17 rfl (by decide +kernel) (Nat.le_of_ble_eq_true rfl) (upd_Heap_size hk _) dX2_remove_61 (fun H locs hW hS => ?_)
      have hW : Wd g (up2 M k 8 ((M k 8) - (1))) H := hW
      have h := letE h
      generalize up2 M k 8 ((M k 8) - (1)) = M1002 at hW h
      refine lv_aload_n hx hb dX2_remove_64 rfl (lv_at hl 0 rfl) ?_
      refine rGet (k := 0) C hW (wB_lt hk (by decide)) (tm_Heap hk) rfl inX2 (by decide) fl_X2_11 rfl dX2_remove_65 ?_
      refine lv_aload_n hx hb dX2_remove_68 rfl (lv_at hl 0 rfl) ?_
      refine rGet (k := 1) C hW (wB_lt hk (by decide)) (tm_Heap hk) rfl inX2 (by decide) fl_X2_17 rfl dX2_remove_69 ?_
      refine lv_aload_n hx hb dX2_remove_72 rfl (lv_at hl 2 rfl) ?_
      have s1003 : vin (M1002 k 8) 12 := Classical.byContradiction fun q9 => by rw [if_neg q9] at h; cases h
      rw [if_pos s1003] at h
      refine rRst (j := 3) (ci := 5) (M' := up2 M1002 (50 + k) (M1002 k 8 : Int32).toNatClampNeg (cd)) (f' := fun i => wB k + (7 + 2 * (up2 M1002 (50 + k) (M1002 k 8 : Int32).toNatClampNeg (cd) (50 + k) i).toNatClampNeg)) C hW hS (wB_lt hk (by decide)) (tm_row hk) rfl (wB_lt hk (by have := hq; omega)) (tm_Lot hk hq) rfl s1003 (fun q => by simp only [up2_gr, upd]; split <;> rfl) (UPD_G (by omega) (ob50 hk).symm (by rw [tm_row hk])) dX2_remove_73 (fun H locs hW hS => ?_)
      have hW : Wd g (up2 M1002 (50 + k) (M1002 k 8 : Int32).toNatClampNeg (cd)) H := hW
      have h := letE h
      generalize up2 M1002 (50 + k) (M1002 k 8 : Int32).toNatClampNeg (cd) = M1004 at hW h
      cases h
      exact rV C hr hlk dX2_remove_74 hW hS rfl
    · rw [if_neg c1001] at h
      refine lv_aload_n hx hb dX2_remove_34 rfl (lv_at hl 0 rfl) ?_
      refine rGet (k := 0) C hW (wB_lt hk (by decide)) (tm_Heap hk) rfl inX2 (by decide) fl_X2_11 rfl dX2_remove_35 ?_
      refine lv_iload_n hx hb dX2_remove_38 rfl (lv_at hl 3 rfl) ?_
      refine lv_iconst (v := 1) hx hb dX2_remove_39 (by decide) ?_
      refine lv_isub hx hb dX2_remove_40 ?_
      refine lv_aload_n hx hb dX2_remove_41 rfl (lv_at hl 0 rfl) ?_
      refine rGet (k := 0) C hW (wB_lt hk (by decide)) (tm_Heap hk) rfl inX2 (by decide) fl_X2_11 rfl dX2_remove_42 ?_
      refine lv_iload_n hx hb dX2_remove_45 rfl (lv_at hl 3 rfl) ?_
      have s1005 : vin (z) 12 := Classical.byContradiction fun q9 => by rw [if_neg q9] at h; cases h
      rw [if_pos s1005] at h
      have s1006 : (M (50 + k) (z : Int32).toNatClampNeg).toNatClampNeg < 12 := Classical.byContradiction fun q9 => by rw [if_neg q9] at h; cases h
      rw [if_pos s1006] at h
      refine rRld (j := 3) C hW (wB_lt hk (by decide)) (tm_row hk) rfl s1005 dX2_remove_46 ?_
      have s1007 : vin ((z) - (1)) 12 := Classical.byContradiction fun q9 => by rw [if_neg q9] at h; cases h
      rw [if_pos s1007] at h
      refine rRst (j := 3) (ci := 5) (M' := up2 M (50 + k) ((z) - (1) : Int32).toNatClampNeg (M (50 + k) (z : Int32).toNatClampNeg)) (f' := fun i => wB k + (7 + 2 * (up2 M (50 + k) ((z) - (1) : Int32).toNatClampNeg (M (50 + k) (z : Int32).toNatClampNeg) (50 + k) i).toNatClampNeg)) C hW hS (wB_lt hk (by decide)) (tm_row hk) rfl (wB_lt hk (by have := s1006; omega)) (tm_Lot hk s1006) rfl s1007 (fun q => by simp only [up2_gr, upd]; split <;> rfl) (UPD_G (by omega) (ob50 hk).symm (by rw [tm_row hk])) dX2_remove_47 (fun H locs hW hS => ?_)
      have hW : Wd g (up2 M (50 + k) ((z) - (1) : Int32).toNatClampNeg (M (50 + k) (z : Int32).toNatClampNeg)) H := hW
      have h := letE h
      generalize up2 M (50 + k) ((z) - (1) : Int32).toNatClampNeg (M (50 + k) (z : Int32).toNatClampNeg) = M1008 at hW h
      refine lv_iinc (v := z + 1) (lv' := [(3, .int (z + 1)), (0, rf g (wB k + 5)), (1, .int (x)), (2, rf g (wB k + (7 + 2 * cd.toNatClampNeg)))]) hx hb dX2_remove_48 hl (k := 3) rfl rfl (by decide) rfl (fun ls hl => ?_)
      refine lv_goto (tgt := 26) hx hb dX2_remove_51 (by decide) ?_
      exact ih M1008 x (z + 1) h _ _ hW hS ls (lv_sub hl [1, 2, 3, 0] rfl)
set_option maxHeartbeats 4000000 in
set_option maxRecDepth 100000 in
theorem c_X2_remove (l : Launch) (g : GD) (M : MM) (k : Nat) (x : Int32) (hk : k < 5) (r : Unit) (M2 : MM) (h : f_X2_remove M k x = some (r, M2)) : Met l yX2_remove (wm yX2_remove cX2_remove 4 none) (RM 1 22) (va_Pc [rf g (wB k + 5), .int (x)] (WDp g M)) (QV g (fun w0 => M2 = w0)) 0 0 (AA g) := by
  refine mkM (by decide +kernel) (Nat.le_of_ble_eq_true rfl) ?_
  intro p e s m below meth c C hr hlk hW hS ls hl
  have hl : lv_has ls 4 [(0, rf g (wB k + 5)), (1, .int (x))] := hl
  have hx := C.1
  have hb := C.2.1
  have hts := C.2.2.2.2.1
  unfold f_X2_remove at h
  refine lv_iload_n hx hb dX2_remove_0 rfl (lv_at hl 1 rfl) ?_
  refine lv_iconst (v := 0) hx hb dX2_remove_1 (by decide) ?_
  refine lv_aload_n hx hb dX2_remove_2 rfl (lv_at hl 0 rfl) ?_
  refine rGet (k := 1) C hW (wB_lt hk (by decide)) (tm_Heap hk) rfl inX2 (by decide) fl_X2_17 rfl dX2_remove_3 ?_
  refine lv_iconst (v := 1) hx hb dX2_remove_6 (by decide) ?_
  refine lv_isub hx hb dX2_remove_7 ?_
  obtain ⟨r1, M2, h3, h⟩ := bind2 h
  refine cBack C.2.2.2.2.2.2.2.2 (runSN (As := [.int (x), .int (0), .int ((M k 8) - (1))]) (rest := []) C hW hS (c_X10_isIn l g M x 0 ((M k 8) - (1)) _ _ h3) kS_X10_isIn ml_X2_22 rfl hl.1 rfl (Nat.le_of_ble_eq_true rfl) ⟨Nat.le_of_ble_eq_true rfl, Nat.le_of_ble_eq_true rfl⟩ ⟨Nat.zero_le _, Nat.zero_le _⟩ dX2_remove_8) hS (fun v0 w0 H locs hp hW hS => ?_)
  obtain ⟨rfl, rfl, zr1⟩ := hp
  refine lv_if_ne (tgt := 15) hx hb dX2_remove_11 (by decide) (fun c4 => ?_) (fun c4 => ?_)
  · rw [if_neg c4] at h
    refine lv_aload_n hx hb dX2_remove_15 rfl (lv_at hl 0 rfl) ?_
    refine rGet (k := 0) C hW (wB_lt hk (by decide)) (tm_Heap hk) rfl inX2 (by decide) fl_X2_11 rfl dX2_remove_16 ?_
    refine lv_iload_n hx hb dX2_remove_19 rfl (lv_at hl 1 rfl) ?_
    have s5 : vin (x) 12 := Classical.byContradiction fun q9 => by rw [if_neg q9] at h; cases h
    rw [if_pos s5] at h
    have s6 : (M2 (50 + k) (x : Int32).toNatClampNeg).toNatClampNeg < 12 := Classical.byContradiction fun q9 => by rw [if_neg q9] at h; cases h
    rw [if_pos s6] at h
    refine rRld (j := 3) C hW (wB_lt hk (by decide)) (tm_row hk) rfl s5 dX2_remove_20 ?_
    refine lv_astore_n (lv' := [(2, rf g (wB k + (7 + 2 * (M2 (50 + k) (x : Int32).toNatClampNeg).toNatClampNeg))), (0, rf g (wB k + 5)), (1, .int (x))]) hx hb dX2_remove_21 rfl hl (by decide) rfl (fun ls hl => ?_)
    refine lv_iload_n hx hb dX2_remove_22 rfl (lv_at hl 2 rfl) ?_
    refine lv_iconst (v := 1) hx hb dX2_remove_23 (by decide) ?_
    refine lv_iadd hx hb dX2_remove_24 ?_
    refine lv_istore_n (lv' := [(3, .int ((x) + (1))), (2, rf g (wB k + (7 + 2 * (M2 (50 + k) (x : Int32).toNatClampNeg).toNatClampNeg))), (0, rf g (wB k + 5)), (1, .int (x))]) hx hb dX2_remove_25 rfl hl (by decide) rfl (fun ls hl => ?_)
    exact t_X2_remove_26 l g k hk (M2 (50 + k) (x : Int32).toNatClampNeg) s6 FU M2 x ((x) + (1)) _ _ h C hr hlk _ _ hW hS ls (lv_sub hl [2, 3, 1, 0] rfl)
  · rw [if_pos c4] at h
    cases h
    exact rV C hr hlk dX2_remove_14 hW hS rfl
def lp_X2_copyFrom_10 (fu : Nat) (M : MM) (k : Nat) (k2 : Nat) (z : Int32) : Option (Unit × MM) := match fu with
  | 0 => none
  | n + 1 => (if (M k 8 : Int32) ≤ (z : Int32) then some ((), M) else (if vin (z) 12 then (if (M (50 + k) (z : Int32).toNatClampNeg).toNatClampNeg < 12 then (if vin (z) 12 then (if (M (50 + k2) (z : Int32).toNatClampNeg).toNatClampNeg < 12 then (bnd2 (f_X6_copyFrom M k (9 + 3 * (M (50 + k) (z : Int32).toNatClampNeg).toNatClampNeg) k2 (9 + 3 * (M (50 + k2) (z : Int32).toNatClampNeg).toNatClampNeg)) fun r1006 M1007 => (if vin (z) 12 then (if (M1007 (50 + k) (z : Int32).toNatClampNeg).toNatClampNeg < 12 then (if vin (z) 12 then (if (M1007 (50 + k2) (z : Int32).toNatClampNeg).toNatClampNeg < 12 then (letB (up2 M1007 k (11 + 3 * (M1007 (50 + k) (z : Int32).toNatClampNeg).toNatClampNeg) (M1007 k2 (11 + 3 * (M1007 (50 + k2) (z : Int32).toNatClampNeg).toNatClampNeg))) fun M1013 => (lp_X2_copyFrom_10 n M1013 k k2  (z + 1))) else none) else none) else none) else none)) else none) else none) else none) else none))
def f_X2_copyFrom (M : MM) (k : Nat) (k2 : Nat) : Option (Unit × MM) := (letB (up2 M k 8 (M k2 8)) fun M1 => (lp_X2_copyFrom_10 FU M1 k k2  0))
set_option maxHeartbeats 4000000 in
set_option maxRecDepth 100000 in
theorem t_X2_copyFrom_10 (l : Launch) (g : GD) {p : Program} {e : Env} {s : State} {m : MethodId} {av : Array Value} {below : List Frame} {meth : Method} {c : Code} (k : Nat) (k2 : Nat) (hk : k < 5) (hk2 : k2 < 5) (n : Nat) : ∀ (M : MM) (z : Int32) (r : Unit) (M2 : MM), lp_X2_copyFrom_10 n M k k2  z = some (r, M2) → CX p s m av c cX2_copyFrom 3 RX2 g → meth.sig.returnType = none → meth.locks = false → ∀ (H : Heap) (locs : List Loc), Wd g M H → sS g s H locs → ∀ ls : Array Slot, lv_has ls 3 [(0, rf g (wB k + 5)), (1, rf g (wB k2 + 5)), (2, .int (z))] → W p l e (RM 1 21) s m av below meth c H locs 0 0 (MQ below (QV g (fun w0 => M2 = w0)) av s 0 0 (AA g)) (F0 m 10 ls []) := by
  induction n with
  | zero => intro M z r M2 h; cases h
  | succ n ih0 =>
    intro M z r M2 h C hr hlk H locs hW hS ls hl
    have ih : ∀ (M : MM) (z : Int32), lp_X2_copyFrom_10 n M k k2  z = some (r, M2) → ∀ (H : Heap) (locs : List Loc), Wd g M H → sS g s H locs → ∀ ls : Array Slot, lv_has ls 3 [(0, rf g (wB k + 5)), (1, rf g (wB k2 + 5)), (2, .int (z))] → W p l e (RM 1 21) s m av below meth c H locs 0 0 (MQ below (QV g (fun w0 => M2 = w0)) av s 0 0 (AA g)) (F0 m 10 ls []) := fun M z h H locs hW hS ls hl => ih0 M z r M2 h C hr hlk H locs hW hS ls hl
    unfold lp_X2_copyFrom_10 at h
    try dsimp only at h
    have hx := C.1
    have hb := C.2.1
    have hts := C.2.2.2.2.1
    refine lv_iload_n hx hb dX2_copyFrom_10 rfl (lv_at hl 2 rfl) ?_
    refine lv_aload_n hx hb dX2_copyFrom_11 rfl (lv_at hl 0 rfl) ?_
    refine rGet (k := 1) C hW (wB_lt hk (by decide)) (tm_Heap hk) rfl inX2 (by decide) fl_X2_17 rfl dX2_copyFrom_12 ?_
    refine lv_icmp_ge (tgt := 63) hx hb dX2_copyFrom_15 (by decide) (fun c1001 => ?_) (fun c1001 => ?_)
    · rw [if_pos c1001] at h
      cases h
      exact rV C hr hlk dX2_copyFrom_63 hW hS rfl
    · rw [if_neg c1001] at h
      refine lv_aload_n hx hb dX2_copyFrom_18 rfl (lv_at hl 0 rfl) ?_
      refine rGet (k := 0) C hW (wB_lt hk (by decide)) (tm_Heap hk) rfl inX2 (by decide) fl_X2_11 rfl dX2_copyFrom_19 ?_
      refine lv_iload_n hx hb dX2_copyFrom_22 rfl (lv_at hl 2 rfl) ?_
      have s1002 : vin (z) 12 := Classical.byContradiction fun q9 => by rw [if_neg q9] at h; cases h
      rw [if_pos s1002] at h
      have s1003 : (M (50 + k) (z : Int32).toNatClampNeg).toNatClampNeg < 12 := Classical.byContradiction fun q9 => by rw [if_neg q9] at h; cases h
      rw [if_pos s1003] at h
      refine rRld (j := 3) C hW (wB_lt hk (by decide)) (tm_row hk) rfl s1002 dX2_copyFrom_23 ?_
      refine rGetN (k := 0) C hW (wB_lt hk (by have := s1003; omega)) (tm_Lot hk s1003) rfl inX5 (by decide) fl_X2_32 rfl dX2_copyFrom_24 ?_
      refine lv_aload_n hx hb dX2_copyFrom_27 rfl (lv_at hl 1 rfl) ?_
      refine rGet (k := 0) C hW (wB_lt hk2 (by decide)) (tm_Heap hk2) rfl inX2 (by decide) fl_X2_11 rfl dX2_copyFrom_28 ?_
      refine lv_iload_n hx hb dX2_copyFrom_31 rfl (lv_at hl 2 rfl) ?_
      have s1004 : vin (z) 12 := Classical.byContradiction fun q9 => by rw [if_neg q9] at h; cases h
      rw [if_pos s1004] at h
      have s1005 : (M (50 + k2) (z : Int32).toNatClampNeg).toNatClampNeg < 12 := Classical.byContradiction fun q9 => by rw [if_neg q9] at h; cases h
      rw [if_pos s1005] at h
      refine rRld (j := 3) C hW (wB_lt hk2 (by decide)) (tm_row hk2) rfl s1004 dX2_copyFrom_32 ?_
      refine rGetN (k := 0) C hW (wB_lt hk2 (by have := s1005; omega)) (tm_Lot hk2 s1005) rfl inX5 (by decide) fl_X2_32 rfl dX2_copyFrom_33 ?_
      obtain ⟨r1006, M1007, h1008, h⟩ := bind2 h
      refine cBackV C.2.2.2.2.2.2.2.2 (runV (As := [rf g (wB k2 + (8 + 2 * (M (50 + k2) (z : Int32).toNatClampNeg).toNatClampNeg))]) (rest := []) C hW hS (c_X6_copyFrom l g M (wB k + (8 + 2 * (M (50 + k) (z : Int32).toNatClampNeg).toNatClampNeg)) k (9 + 3 * (M (50 + k) (z : Int32).toNatClampNeg).toNatClampNeg) (wB k2 + (8 + 2 * (M (50 + k2) (z : Int32).toNatClampNeg).toNatClampNeg)) k2 (9 + 3 * (M (50 + k2) (z : Int32).toNatClampNeg).toNatClampNeg) (MX_lot hk s1003) (MX_lot hk2 s1005) _ _ h1008) kV_X6_copyFrom ml_X2_50 (MX_lot hk s1003).lt (MX_lot hk s1003).cel rfl rfl rfl hl.1 rfl (Nat.le_of_ble_eq_true rfl) ⟨Nat.le_of_ble_eq_true rfl, Nat.le_of_ble_eq_true rfl⟩ ⟨Nat.zero_le _, Nat.zero_le _⟩ dX2_copyFrom_36) hS (fun v0 H locs hp hW hS => ?_)
      subst hp
      refine lv_aload_n hx hb dX2_copyFrom_39 rfl (lv_at hl 0 rfl) ?_
      refine rGet (k := 0) C hW (wB_lt hk (by decide)) (tm_Heap hk) rfl inX2 (by decide) fl_X2_11 rfl dX2_copyFrom_40 ?_
      refine lv_iload_n hx hb dX2_copyFrom_43 rfl (lv_at hl 2 rfl) ?_
      have s1009 : vin (z) 12 := Classical.byContradiction fun q9 => by rw [if_neg q9] at h; cases h
      rw [if_pos s1009] at h
      have s1010 : (M1007 (50 + k) (z : Int32).toNatClampNeg).toNatClampNeg < 12 := Classical.byContradiction fun q9 => by rw [if_neg q9] at h; cases h
      rw [if_pos s1010] at h
      refine rRld (j := 3) C hW (wB_lt hk (by decide)) (tm_row hk) rfl s1009 dX2_copyFrom_44 ?_
      refine lv_aload_n hx hb dX2_copyFrom_45 rfl (lv_at hl 1 rfl) ?_
      refine rGet (k := 0) C hW (wB_lt hk2 (by decide)) (tm_Heap hk2) rfl inX2 (by decide) fl_X2_11 rfl dX2_copyFrom_46 ?_
      refine lv_iload_n hx hb dX2_copyFrom_49 rfl (lv_at hl 2 rfl) ?_
      have s1011 : vin (z) 12 := Classical.byContradiction fun q9 => by rw [if_neg q9] at h; cases h
      rw [if_pos s1011] at h
      have s1012 : (M1007 (50 + k2) (z : Int32).toNatClampNeg).toNatClampNeg < 12 := Classical.byContradiction fun q9 => by rw [if_neg q9] at h; cases h
      rw [if_pos s1012] at h
      refine rRld (j := 3) C hW (wB_lt hk2 (by decide)) (tm_row hk2) rfl s1011 dX2_copyFrom_50 ?_
      refine rGetN (k := 1) C hW (wB_lt hk2 (by have := s1012; omega)) (tm_Lot hk2 s1012) rfl inX5 (by decide) fl_X2_39 rfl dX2_copyFrom_51 ?_
      refine rPutN (k := 1) C hW hS (wB_lt hk (by have := s1010; omega)) (tm_Lot hk s1010) rfl inX5 tyX5_ok nmX5 (by decide) fl_X2_39 rfl (by decide +kernel) (Nat.le_of_ble_eq_true rfl) (upd_Lot_kind hk s1010 _) dX2_copyFrom_54 (fun H locs hW hS => ?_)
      have hW : Wd g (up2 M1007 k (11 + 3 * (M1007 (50 + k) (z : Int32).toNatClampNeg).toNatClampNeg) (M1007 k2 (11 + 3 * (M1007 (50 + k2) (z : Int32).toNatClampNeg).toNatClampNeg))) H := hW
      have h := letE h
      generalize up2 M1007 k (11 + 3 * (M1007 (50 + k) (z : Int32).toNatClampNeg).toNatClampNeg) (M1007 k2 (11 + 3 * (M1007 (50 + k2) (z : Int32).toNatClampNeg).toNatClampNeg)) = M1013 at hW h
      refine lv_iinc (v := z + 1) (lv' := [(2, .int (z + 1)), (0, rf g (wB k + 5)), (1, rf g (wB k2 + 5))]) hx hb dX2_copyFrom_57 hl (k := 2) rfl rfl (by decide) rfl (fun ls hl => ?_)
      refine lv_goto (tgt := 10) hx hb dX2_copyFrom_60 (by decide) ?_
      exact ih M1013 (z + 1) h _ _ hW hS ls (lv_sub hl [1, 2, 0] rfl)
set_option maxHeartbeats 4000000 in
set_option maxRecDepth 100000 in
theorem c_X2_copyFrom (l : Launch) (g : GD) (M : MM) (k : Nat) (k2 : Nat) (hk : k < 5) (hk2 : k2 < 5) (r : Unit) (M2 : MM) (h : f_X2_copyFrom M k k2 = some (r, M2)) : Met l yX2_copyFrom (wm yX2_copyFrom cX2_copyFrom 3 none) (RM 1 21) (va_Pc [rf g (wB k + 5), rf g (wB k2 + 5)] (WDp g M)) (QV g (fun w0 => M2 = w0)) 0 0 (AA g) := by
  refine mkM (by decide +kernel) (Nat.le_of_ble_eq_true rfl) ?_
  intro p e s m below meth c C hr hlk hW hS ls hl
  have hl : lv_has ls 3 [(0, rf g (wB k + 5)), (1, rf g (wB k2 + 5))] := hl
  have hx := C.1
  have hb := C.2.1
  have hts := C.2.2.2.2.1
  unfold f_X2_copyFrom at h
  refine lv_aload_n hx hb dX2_copyFrom_0 rfl (lv_at hl 0 rfl) ?_
  refine lv_aload_n hx hb dX2_copyFrom_1 rfl (lv_at hl 1 rfl) ?_
  refine rGet (k := 1) C hW (wB_lt hk2 (by decide)) (tm_Heap hk2) rfl inX2 (by decide) fl_X2_17 rfl dX2_copyFrom_2 ?_
  refine rPut (k := 1) C hW hS (wB_lt hk (by decide)) (tm_Heap hk) rfl inX2 tyX2_ok nmX2 (by decide) fl_X2_17 rfl (by decide +kernel) (Nat.le_of_ble_eq_true rfl) (upd_Heap_size hk _) dX2_copyFrom_5 (fun H locs hW hS => ?_)
  have hW : Wd g (up2 M k 8 (M k2 8)) H := hW
  have h := letE h
  generalize up2 M k 8 (M k2 8) = M1 at hW h
  refine lv_iconst (v := 0) hx hb dX2_copyFrom_8 (by decide) ?_
  refine lv_istore_n (lv' := [(2, .int (0)), (0, rf g (wB k + 5)), (1, rf g (wB k2 + 5))]) hx hb dX2_copyFrom_9 rfl hl (by decide) rfl (fun ls hl => ?_)
  exact t_X2_copyFrom_10 l g k k2 hk hk2   FU M1 0 _ _ h C hr hlk _ _ hW hS ls (lv_sub hl [1, 2, 0] rfl)
def f_X9_bellAt (M : MM) (k : Nat) (x : Int32) : Option (Option Nat × MM) := (bnd2 (f_X10_isIn M x 0 ((M k 52) - (1))) fun r1 M2 => (if (r1 : Int32) = 0 then some (none, M2) else (if vin (x) 100 then some (some ((x : Int32).toNatClampNeg), M2) else none)))
set_option maxHeartbeats 4000000 in
set_option maxRecDepth 100000 in
theorem c_X9_bellAt (l : Launch) (g : GD) (M : MM) (k : Nat) (x : Int32) (hk : k < 5) (r : Option Nat) (M2 : MM) (h : f_X9_bellAt M k x = some (r, M2)) : Met l yX9_bellAt (wm yX9_bellAt cX9_bellAt 2 (some (.object "BellFoundry$Bell"))) (RM 1 22) (va_Pc [rf g (wB k), .int (x)] (WDp g M)) (QQ g (fun v w0 => v = vBell g k r ∧ M2 = w0 ∧ ∀ j, r = some j → j < 100)) 0 0 (AA g) := by
  refine mkM (by decide +kernel) (Nat.le_of_ble_eq_true rfl) ?_
  intro p e s m below meth c C hr hlk hW hS ls hl
  have hl : lv_has ls 2 [(0, rf g (wB k)), (1, .int (x))] := hl
  have hx := C.1
  have hb := C.2.1
  have hts := C.2.2.2.2.1
  unfold f_X9_bellAt at h
  refine lv_iload_n hx hb dX9_bellAt_0 rfl (lv_at hl 1 rfl) ?_
  refine lv_iconst (v := 0) hx hb dX9_bellAt_1 (by decide) ?_
  refine lv_aload_n hx hb dX9_bellAt_2 rfl (lv_at hl 0 rfl) ?_
  refine rGet (k := 8) C hW (wB_lt (r := 0) hk (by decide)) (tm_Works0 hk) rfl inX9 (by decide) fl_X9_58 rfl dX9_bellAt_3 ?_
  refine lv_iconst (v := 1) hx hb dX9_bellAt_6 (by decide) ?_
  refine lv_isub hx hb dX9_bellAt_7 ?_
  obtain ⟨r1, M2, h3, h⟩ := bind2 h
  refine cBack C.2.2.2.2.2.2.2.2 (runSN (As := [.int (x), .int (0), .int ((M k 52) - (1))]) (rest := []) C hW hS (c_X10_isIn l g M x 0 ((M k 52) - (1)) _ _ h3) kS_X10_isIn ml_X9_92 rfl hl.1 rfl (Nat.le_of_ble_eq_true rfl) ⟨Nat.le_of_ble_eq_true rfl, Nat.le_of_ble_eq_true rfl⟩ ⟨Nat.zero_le _, Nat.zero_le _⟩ dX9_bellAt_8) hS (fun v0 w0 H locs hp hW hS => ?_)
  obtain ⟨rfl, rfl, zr1⟩ := hp
  refine lv_if_eq (tgt := 23) hx hb dX9_bellAt_11 (by decide) (fun c4 => ?_) (fun c4 => ?_)
  · rw [if_pos c4] at h
    refine lv_null hx hb dX9_bellAt_23 ?_
    cases h
    exact rA C hr hlk dX9_bellAt_24 hW hS (Or.inl rfl) ⟨rfl, rfl, fun j e => by cases e⟩
  · rw [if_neg c4] at h
    refine lv_aload_n hx hb dX9_bellAt_14 rfl (lv_at hl 0 rfl) ?_
    refine rGet (k := 6) C hW (wB_lt (r := 0) hk (by decide)) (tm_Works0 hk) rfl inX9 (by decide) fl_X9_48 rfl dX9_bellAt_15 ?_
    refine lv_iload_n hx hb dX9_bellAt_18 rfl (lv_at hl 1 rfl) ?_
    have s5 : vin (x) 100 := Classical.byContradiction fun q9 => by rw [if_neg q9] at h; cases h
    rw [if_pos s5] at h
    refine rRld (j := 4) C hW (wB_lt hk (by decide)) (tm_bells hk) rfl s5 dX9_bellAt_19 ?_
    refine lv_goto (tgt := 24) hx hb dX9_bellAt_20 (by decide) ?_
    cases h
    exact rA C hr hlk dX9_bellAt_24 hW hS (Or.inr ⟨_, rfl⟩) ⟨rfl, rfl, fun j e => by cases e; exact (vp_lt s5)⟩
def f_X9_orderAt (M : MM) (k : Nat) (x : Int32) : Option (Option Nat × MM) := (bnd2 (f_X10_isIn M x 0 ((M k 53) - (1))) fun r1 M2 => (if (r1 : Int32) = 0 then some (none, M2) else (if vin (x) 100 then some (some ((x : Int32).toNatClampNeg), M2) else none)))
set_option maxHeartbeats 4000000 in
set_option maxRecDepth 100000 in
theorem c_X9_orderAt (l : Launch) (g : GD) (M : MM) (k : Nat) (x : Int32) (hk : k < 5) (r : Option Nat) (M2 : MM) (h : f_X9_orderAt M k x = some (r, M2)) : Met l yX9_orderAt (wm yX9_orderAt cX9_orderAt 2 (some (.object "BellFoundry$Order"))) (RM 1 22) (va_Pc [rf g (wB k), .int (x)] (WDp g M)) (QQ g (fun v w0 => v = vOrder g k r ∧ M2 = w0 ∧ ∀ j, r = some j → j < 100)) 0 0 (AA g) := by
  refine mkM (by decide +kernel) (Nat.le_of_ble_eq_true rfl) ?_
  intro p e s m below meth c C hr hlk hW hS ls hl
  have hl : lv_has ls 2 [(0, rf g (wB k)), (1, .int (x))] := hl
  have hx := C.1
  have hb := C.2.1
  have hts := C.2.2.2.2.1
  unfold f_X9_orderAt at h
  refine lv_iload_n hx hb dX9_orderAt_0 rfl (lv_at hl 1 rfl) ?_
  refine lv_iconst (v := 0) hx hb dX9_orderAt_1 (by decide) ?_
  refine lv_aload_n hx hb dX9_orderAt_2 rfl (lv_at hl 0 rfl) ?_
  refine rGet (k := 9) C hW (wB_lt (r := 0) hk (by decide)) (tm_Works0 hk) rfl inX9 (by decide) fl_X9_62 rfl dX9_orderAt_3 ?_
  refine lv_iconst (v := 1) hx hb dX9_orderAt_6 (by decide) ?_
  refine lv_isub hx hb dX9_orderAt_7 ?_
  obtain ⟨r1, M2, h3, h⟩ := bind2 h
  refine cBack C.2.2.2.2.2.2.2.2 (runSN (As := [.int (x), .int (0), .int ((M k 53) - (1))]) (rest := []) C hW hS (c_X10_isIn l g M x 0 ((M k 53) - (1)) _ _ h3) kS_X10_isIn ml_X9_92 rfl hl.1 rfl (Nat.le_of_ble_eq_true rfl) ⟨Nat.le_of_ble_eq_true rfl, Nat.le_of_ble_eq_true rfl⟩ ⟨Nat.zero_le _, Nat.zero_le _⟩ dX9_orderAt_8) hS (fun v0 w0 H locs hp hW hS => ?_)
  obtain ⟨rfl, rfl, zr1⟩ := hp
  refine lv_if_eq (tgt := 23) hx hb dX9_orderAt_11 (by decide) (fun c4 => ?_) (fun c4 => ?_)
  · rw [if_pos c4] at h
    refine lv_null hx hb dX9_orderAt_23 ?_
    cases h
    exact rA C hr hlk dX9_orderAt_24 hW hS (Or.inl rfl) ⟨rfl, rfl, fun j e => by cases e⟩
  · rw [if_neg c4] at h
    refine lv_aload_n hx hb dX9_orderAt_14 rfl (lv_at hl 0 rfl) ?_
    refine rGet (k := 7) C hW (wB_lt (r := 0) hk (by decide)) (tm_Works0 hk) rfl inX9 (by decide) fl_X9_54 rfl dX9_orderAt_15 ?_
    refine lv_iload_n hx hb dX9_orderAt_18 rfl (lv_at hl 1 rfl) ?_
    have s5 : vin (x) 100 := Classical.byContradiction fun q9 => by rw [if_neg q9] at h; cases h
    rw [if_pos s5] at h
    refine rRld (j := 5) C hW (wB_lt hk (by decide)) (tm_orders hk) rfl s5 dX9_orderAt_19 ?_
    refine lv_goto (tgt := 24) hx hb dX9_orderAt_20 (by decide) ?_
    cases h
    exact rA C hr hlk dX9_orderAt_24 hW hS (Or.inr ⟨_, rfl⟩) ⟨rfl, rfl, fun j e => by cases e; exact (vp_lt s5)⟩
def lp_X9_burn_2 (fu : Nat) (M : MM) (k : Nat) (G : Nat) (i : Nat) (z : Int32) : Option (Unit × MM) := match fu with
  | 0 => none
  | n + 1 => (if (1 : Int32) < (z : Int32) then some ((), M) else (if vin (z) 7 then (bnd2 (f_X6_lossOf M G i z (M (40 + k) (z : Int32).toNatClampNeg)) fun r1003 M1004 => (bnd2 (f_X6_put M1004 G i z (-(r1003))) fun r1006 M1007 => (bnd2 (f_X6_put M1007 k 4 z r1003) fun r1009 M1010 => (lp_X9_burn_2 n M1010 k G i  (z + 1))))) else none))
def f_X9_burn (M : MM) (k : Nat) (G : Nat) (i : Nat) : Option (Unit × MM) := (lp_X9_burn_2 FU M k G i  0)
set_option maxHeartbeats 4000000 in
set_option maxRecDepth 100000 in
theorem t_X9_burn_2 (l : Launch) (g : GD) {p : Program} {e : Env} {s : State} {m : MethodId} {av : Array Value} {below : List Frame} {meth : Method} {c : Code} (k : Nat) (o : Nat) (G : Nat) (i : Nat) (hk : k < 5) (hm : MX o G i) (n : Nat) : ∀ (M : MM) (z : Int32) (r : Unit) (M2 : MM), lp_X9_burn_2 n M k G i  z = some (r, M2) → CX p s m av c cX9_burn 4 RX9 g → meth.sig.returnType = none → meth.locks = false → ∀ (H : Heap) (locs : List Loc), Wd g M H → sS g s H locs → ∀ ls : Array Slot, lv_has ls 4 [(0, rf g (wB k)), (1, rf g (o)), (2, .int (z))] → W p l e (RM 2 43) s m av below meth c H locs 0 0 (MQ below (QV g (fun w0 => M2 = w0)) av s 0 0 (AA g)) (F0 m 2 ls []) := by
  induction n with
  | zero => intro M z r M2 h; cases h
  | succ n ih0 =>
    intro M z r M2 h C hr hlk H locs hW hS ls hl
    have ih : ∀ (M : MM) (z : Int32), lp_X9_burn_2 n M k G i  z = some (r, M2) → ∀ (H : Heap) (locs : List Loc), Wd g M H → sS g s H locs → ∀ ls : Array Slot, lv_has ls 4 [(0, rf g (wB k)), (1, rf g (o)), (2, .int (z))] → W p l e (RM 2 43) s m av below meth c H locs 0 0 (MQ below (QV g (fun w0 => M2 = w0)) av s 0 0 (AA g)) (F0 m 2 ls []) := fun M z h H locs hW hS ls hl => ih0 M z r M2 h C hr hlk H locs hW hS ls hl
    unfold lp_X9_burn_2 at h
    try dsimp only at h
    have hx := C.1
    have hb := C.2.1
    have hts := C.2.2.2.2.1
    refine lv_iload_n hx hb dX9_burn_2 rfl (lv_at hl 2 rfl) ?_
    refine lv_iconst (v := 1) hx hb dX9_burn_3 (by decide) ?_
    refine lv_icmp_gt (tgt := 41) hx hb dX9_burn_4 (by decide) (fun c1001 => ?_) (fun c1001 => ?_)
    · rw [if_pos c1001] at h
      cases h
      exact rV C hr hlk dX9_burn_41 hW hS rfl
    · rw [if_neg c1001] at h
      refine lv_aload_n hx hb dX9_burn_7 rfl (lv_at hl 1 rfl) ?_
      refine lv_iload_n hx hb dX9_burn_8 rfl (lv_at hl 2 rfl) ?_
      refine lv_aload_n hx hb dX9_burn_9 rfl (lv_at hl 0 rfl) ?_
      refine rGet (k := 5) C hW (wB_lt (r := 0) hk (by decide)) (tm_Works0 hk) rfl inX9 (by decide) fl_X9_43 rfl dX9_burn_10 ?_
      refine lv_iload_n hx hb dX9_burn_13 rfl (lv_at hl 2 rfl) ?_
      have s1002 : vin (z) 7 := Classical.byContradiction fun q9 => by rw [if_neg q9] at h; cases h
      rw [if_pos s1002] at h
      refine rIld C hW (wB_lt hk (by decide)) (tm_settings hk) s1002 dX9_burn_14 ?_
      obtain ⟨r1003, M1004, h1005, h⟩ := bind2 h
      refine cBack C.2.2.2.2.2.2.2.2 (runV (As := [.int (z), .int (M (40 + k) (z : Int32).toNatClampNeg)]) (rest := []) C hW hS (c_X6_lossOf l g M o G i z (M (40 + k) (z : Int32).toNatClampNeg) hm _ _ h1005) kV_X6_lossOf ml_X9_110 hm.lt hm.cel rfl rfl rfl hl.1 rfl (Nat.le_of_ble_eq_true rfl) ⟨Nat.le_of_ble_eq_true rfl, Nat.le_of_ble_eq_true rfl⟩ ⟨Nat.zero_le _, Nat.zero_le _⟩ dX9_burn_15) hS (fun v0 w0 H locs hp hW hS => ?_)
      obtain ⟨rfl, rfl⟩ := hp
      refine lv_istore_n (lv' := [(3, .int (r1003)), (0, rf g (wB k)), (1, rf g (o)), (2, .int (z))]) hx hb dX9_burn_18 rfl hl (by decide) rfl (fun ls hl => ?_)
      refine lv_aload_n hx hb dX9_burn_19 rfl (lv_at hl 2 rfl) ?_
      refine lv_iload_n hx hb dX9_burn_20 rfl (lv_at hl 3 rfl) ?_
      refine lv_iload_n hx hb dX9_burn_21 rfl (lv_at hl 0 rfl) ?_
      refine lv_ineg hx hb dX9_burn_22 ?_
      obtain ⟨r1006, M1007, h1008, h⟩ := bind2 h
      refine cBackV C.2.2.2.2.2.2.2.2 (runV (As := [.int (z), .int (-(r1003))]) (rest := []) C hW hS (c_X6_put l g M1004 o G i z (-(r1003)) hm _ _ h1008) kV_X6_put ml_X9_114 hm.lt hm.cel rfl rfl rfl hl.1 rfl (Nat.le_of_ble_eq_true rfl) ⟨Nat.le_of_ble_eq_true rfl, Nat.le_of_ble_eq_true rfl⟩ ⟨Nat.zero_le _, Nat.zero_le _⟩ dX9_burn_23) hS (fun v0 H locs hp hW hS => ?_)
      subst hp
      refine lv_aload_n hx hb dX9_burn_26 rfl (lv_at hl 1 rfl) ?_
      refine rGet (k := 2) C hW (wB_lt (r := 0) hk (by decide)) (tm_Works0 hk) rfl inX9 (by decide) fl_X9_21 rfl dX9_burn_27 ?_
      refine lv_iload_n hx hb dX9_burn_30 rfl (lv_at hl 3 rfl) ?_
      refine lv_iload_n hx hb dX9_burn_31 rfl (lv_at hl 0 rfl) ?_
      obtain ⟨r1009, M1010, h1011, h⟩ := bind2 h
      refine cBackV C.2.2.2.2.2.2.2.2 (runV (As := [.int (z), .int (r1003)]) (rest := []) C hW hS (c_X6_put l g M1007 (wB k + 3) k 4 z r1003 (MX_slag hk) _ _ h1011) kV_X6_put ml_X9_114 (MX_slag hk).lt (MX_slag hk).cel rfl rfl rfl hl.1 rfl (Nat.le_of_ble_eq_true rfl) ⟨Nat.le_of_ble_eq_true rfl, Nat.le_of_ble_eq_true rfl⟩ ⟨Nat.zero_le _, Nat.zero_le _⟩ dX9_burn_32) hS (fun v0 H locs hp hW hS => ?_)
      subst hp
      refine lv_iinc (v := z + 1) (lv' := [(2, .int (z + 1)), (3, .int (r1003)), (0, rf g (wB k)), (1, rf g (o))]) hx hb dX9_burn_35 hl (k := 3) rfl rfl (by decide) rfl (fun ls hl => ?_)
      refine lv_goto (tgt := 2) hx hb dX9_burn_38 (by decide) ?_
      exact ih M1010 (z + 1) h _ _ hW hS ls (lv_sub hl [2, 3, 0] rfl)
set_option maxHeartbeats 4000000 in
set_option maxRecDepth 100000 in
theorem c_X9_burn (l : Launch) (g : GD) (M : MM) (k : Nat) (o : Nat) (G : Nat) (i : Nat) (hk : k < 5) (hm : MX o G i) (r : Unit) (M2 : MM) (h : f_X9_burn M k G i = some (r, M2)) : Met l yX9_burn (wm yX9_burn cX9_burn 4 none) (RM 2 43) (va_Pc [rf g (wB k), rf g (o)] (WDp g M)) (QV g (fun w0 => M2 = w0)) 0 0 (AA g) := by
  refine mkM (by decide +kernel) (Nat.le_of_ble_eq_true rfl) ?_
  intro p e s m below meth c C hr hlk hW hS ls hl
  have hl : lv_has ls 4 [(0, rf g (wB k)), (1, rf g (o))] := hl
  have hx := C.1
  have hb := C.2.1
  have hts := C.2.2.2.2.1
  unfold f_X9_burn at h
  refine lv_iconst (v := 0) hx hb dX9_burn_0 (by decide) ?_
  refine lv_istore_n (lv' := [(2, .int (0)), (0, rf g (wB k)), (1, rf g (o))]) hx hb dX9_burn_1 rfl hl (by decide) rfl (fun ls hl => ?_)
  exact t_X9_burn_2 l g k o G i hk hm   FU M 0 _ _ h C hr hlk _ _ hW hS ls (lv_sub hl [1, 2, 0] rfl)
def f_X9_meltDown (M : MM) (k : Nat) (q : Nat) : Option (Unit × MM) := (if (M k (11 + 3 * q) : Int32) = (1 : Int32) then (bnd2 (f_X9_burn M k k (9 + 3 * q)) fun r5 M6 => (bnd2 (f_X6_mixWith M6 k 6 k (9 + 3 * q)) fun r8 M9 => some ((), M9))) else (bnd2 (f_X6_mixWith M k 6 k (9 + 3 * q)) fun r2 M3 => some ((), M3)))
set_option maxHeartbeats 4000000 in
set_option maxRecDepth 100000 in
theorem c_X9_meltDown (l : Launch) (g : GD) (M : MM) (k : Nat) (q : Nat) (hk : k < 5) (hq : q < 12) (r : Unit) (M2 : MM) (h : f_X9_meltDown M k q = some (r, M2)) : Met l yX9_meltDown (wm yX9_meltDown cX9_meltDown 2 none) (RM 3 66) (va_Pc [rf g (wB k), rf g (wB k + (7 + 2 * q))] (WDp g M)) (QV g (fun w0 => M2 = w0)) 0 0 (AA g) := by
  refine mkM (by decide +kernel) (Nat.le_of_ble_eq_true rfl) ?_
  intro p e s m below meth c C hr hlk hW hS ls hl
  have hl : lv_has ls 2 [(0, rf g (wB k)), (1, rf g (wB k + (7 + 2 * q)))] := hl
  have hx := C.1
  have hb := C.2.1
  have hts := C.2.2.2.2.1
  unfold f_X9_meltDown at h
  refine lv_aload_n hx hb dX9_meltDown_0 rfl (lv_at hl 1 rfl) ?_
  refine rGetN (k := 1) C hW (wB_lt hk (by have := hq; omega)) (tm_Lot hk hq) rfl inX5 (by decide) fl_X9_96 rfl dX9_meltDown_1 ?_
  refine lv_iconst (v := 1) hx hb dX9_meltDown_4 (by decide) ?_
  refine lv_icmp_ne (tgt := 16) hx hb dX9_meltDown_5 (by decide) (fun c1 => ?_) (fun c1 => ?_)
  · rw [if_neg c1] at h
    refine lv_aload_n hx hb dX9_meltDown_16 rfl (lv_at hl 0 rfl) ?_
    refine rGet (k := 3) C hW (wB_lt (r := 0) hk (by decide)) (tm_Works0 hk) rfl inX9 (by decide) fl_X9_24 rfl dX9_meltDown_17 ?_
    refine lv_aload_n hx hb dX9_meltDown_20 rfl (lv_at hl 1 rfl) ?_
    refine rGetN (k := 0) C hW (wB_lt hk (by have := hq; omega)) (tm_Lot hk hq) rfl inX5 (by decide) fl_X9_101 rfl dX9_meltDown_21 ?_
    obtain ⟨r2, M3, h4, h⟩ := bind2 h
    refine cBackV C.2.2.2.2.2.2.2.2 (runV (As := [rf g (wB k + (8 + 2 * q))]) (rest := []) C hW hS (c_X6_mixWith l g M (wB k + 4) k 6 (wB k + (8 + 2 * q)) k (9 + 3 * q) (MX_melt hk) (MX_lot hk hq) _ _ h4) kV_X6_mixWith ml_X9_107 (MX_melt hk).lt (MX_melt hk).cel rfl rfl rfl hl.1 rfl (Nat.le_of_ble_eq_true rfl) ⟨Nat.le_of_ble_eq_true rfl, Nat.le_of_ble_eq_true rfl⟩ ⟨Nat.zero_le _, Nat.zero_le _⟩ dX9_meltDown_24) hS (fun v0 H locs hp hW hS => ?_)
    subst hp
    cases h
    exact rV C hr hlk dX9_meltDown_27 hW hS rfl
  · rw [if_pos c1] at h
    refine lv_aload_n hx hb dX9_meltDown_8 rfl (lv_at hl 0 rfl) ?_
    refine lv_aload_n hx hb dX9_meltDown_9 rfl (lv_at hl 1 rfl) ?_
    refine rGetN (k := 0) C hW (wB_lt hk (by have := hq; omega)) (tm_Lot hk hq) rfl inX5 (by decide) fl_X9_101 rfl dX9_meltDown_10 ?_
    obtain ⟨r5, M6, h7, h⟩ := bind2 h
    refine cBackV C.2.2.2.2.2.2.2.2 (runV (As := [rf g (wB k + (8 + 2 * q))]) (rest := []) C hW hS (c_X9_burn l g M k (wB k + (8 + 2 * q)) k (9 + 3 * q) hk (MX_lot hk hq) _ _ h7) kV_X9_burn ml_X9_104 (wB_lt (r := 0) hk (by decide)) (tm_Works0 hk) rfl rfl rfl hl.1 rfl (Nat.le_of_ble_eq_true rfl) ⟨Nat.le_of_ble_eq_true rfl, Nat.le_of_ble_eq_true rfl⟩ ⟨Nat.zero_le _, Nat.zero_le _⟩ dX9_meltDown_13) hS (fun v0 H locs hp hW hS => ?_)
    subst hp
    refine lv_aload_n hx hb dX9_meltDown_16 rfl (lv_at hl 0 rfl) ?_
    refine rGet (k := 3) C hW (wB_lt (r := 0) hk (by decide)) (tm_Works0 hk) rfl inX9 (by decide) fl_X9_24 rfl dX9_meltDown_17 ?_
    refine lv_aload_n hx hb dX9_meltDown_20 rfl (lv_at hl 1 rfl) ?_
    refine rGetN (k := 0) C hW (wB_lt hk (by have := hq; omega)) (tm_Lot hk hq) rfl inX5 (by decide) fl_X9_101 rfl dX9_meltDown_21 ?_
    obtain ⟨r8, M9, h10, h⟩ := bind2 h
    refine cBackV C.2.2.2.2.2.2.2.2 (runV (As := [rf g (wB k + (8 + 2 * q))]) (rest := []) C hW hS (c_X6_mixWith l g M6 (wB k + 4) k 6 (wB k + (8 + 2 * q)) k (9 + 3 * q) (MX_melt hk) (MX_lot hk hq) _ _ h10) kV_X6_mixWith ml_X9_107 (MX_melt hk).lt (MX_melt hk).cel rfl rfl rfl hl.1 rfl (Nat.le_of_ble_eq_true rfl) ⟨Nat.le_of_ble_eq_true rfl, Nat.le_of_ble_eq_true rfl⟩ ⟨Nat.zero_le _, Nat.zero_le _⟩ dX9_meltDown_24) hS (fun v0 H locs hp hW hS => ?_)
    subst hp
    cases h
    exact rV C hr hlk dX9_meltDown_27 hW hS rfl
def lp_X9_burntMelt_13 (fu : Nat) (M : MM) (k : Nat) (z : Int32) : Option (Unit × MM) := match fu with
  | 0 => none
  | n + 1 => (if (1 : Int32) < (z : Int32) then some ((), M) else (if vin (z) 7 then (bnd2 (f_X6_lossOf M k 6 z (M (40 + k) (z : Int32).toNatClampNeg)) fun r1003 M1004 => (bnd2 (f_X6_put M1004 (65 + k) 0 z (-(r1003))) fun r1006 M1007 => (lp_X9_burntMelt_13 n M1007 k  (z + 1)))) else none))
def f_X9_burntMelt (M : MM) (k : Nat) : Option (Unit × MM) := (bnd2 (f_X6_copyFrom M (65 + k) 0 k 6) fun r1 M2 => (lp_X9_burntMelt_13 FU M2 k  0))
set_option maxHeartbeats 4000000 in
set_option maxRecDepth 100000 in
theorem t_X9_burntMelt_13 (l : Launch) (g : GD) {p : Program} {e : Env} {s : State} {m : MethodId} {av : Array Value} {below : List Frame} {meth : Method} {c : Code} (k : Nat) (hk : k < 5) (n : Nat) : ∀ (M : MM) (z : Int32) (r : Unit) (M2 : MM), lp_X9_burntMelt_13 n M k  z = some (r, M2) → CX p s m av c cX9_burntMelt 2 RX9 g → meth.sig.returnType = (some (.object "BellFoundry$Mixture")) → meth.locks = false → ∀ (H : Heap) (locs : List Loc), Wd g M H → sS g s H locs → ∀ ls : Array Slot, lv_has ls 2 [(0, rf g (wB k)), (1, .int (z))] → W p l e (RM 2 43) s m av below meth c H locs 0 0 (MQ below (QQ g (fun v w0 => v = rf g (wB k + 35) ∧ M2 = w0)) av s 0 0 (AA g)) (F0 m 13 ls []) := by
  induction n with
  | zero => intro M z r M2 h; cases h
  | succ n ih0 =>
    intro M z r M2 h C hr hlk H locs hW hS ls hl
    have ih : ∀ (M : MM) (z : Int32), lp_X9_burntMelt_13 n M k  z = some (r, M2) → ∀ (H : Heap) (locs : List Loc), Wd g M H → sS g s H locs → ∀ ls : Array Slot, lv_has ls 2 [(0, rf g (wB k)), (1, .int (z))] → W p l e (RM 2 43) s m av below meth c H locs 0 0 (MQ below (QQ g (fun v w0 => v = rf g (wB k + 35) ∧ M2 = w0)) av s 0 0 (AA g)) (F0 m 13 ls []) := fun M z h H locs hW hS ls hl => ih0 M z r M2 h C hr hlk H locs hW hS ls hl
    unfold lp_X9_burntMelt_13 at h
    try dsimp only at h
    have hx := C.1
    have hb := C.2.1
    have hts := C.2.2.2.2.1
    refine lv_iload_n hx hb dX9_burntMelt_13 rfl (lv_at hl 1 rfl) ?_
    refine lv_iconst (v := 1) hx hb dX9_burntMelt_14 (by decide) ?_
    refine lv_icmp_gt (tgt := 47) hx hb dX9_burntMelt_15 (by decide) (fun c1001 => ?_) (fun c1001 => ?_)
    · rw [if_pos c1001] at h
      refine lv_aload_n hx hb dX9_burntMelt_47 rfl (lv_at hl 0 rfl) ?_
      refine rGet (k := 11) C hW (wB_lt (r := 0) hk (by decide)) (tm_Works0 hk) rfl inX9 (by decide) fl_X9_68 rfl dX9_burntMelt_48 ?_
      cases h
      exact rA C hr hlk dX9_burntMelt_51 hW hS (Or.inr ⟨_, rfl⟩) ⟨rfl, rfl⟩
    · rw [if_neg c1001] at h
      refine lv_aload_n hx hb dX9_burntMelt_18 rfl (lv_at hl 0 rfl) ?_
      refine rGet (k := 11) C hW (wB_lt (r := 0) hk (by decide)) (tm_Works0 hk) rfl inX9 (by decide) fl_X9_68 rfl dX9_burntMelt_19 ?_
      refine lv_iload_n hx hb dX9_burntMelt_22 rfl (lv_at hl 1 rfl) ?_
      refine lv_aload_n hx hb dX9_burntMelt_23 rfl (lv_at hl 0 rfl) ?_
      refine rGet (k := 3) C hW (wB_lt (r := 0) hk (by decide)) (tm_Works0 hk) rfl inX9 (by decide) fl_X9_24 rfl dX9_burntMelt_24 ?_
      refine lv_iload_n hx hb dX9_burntMelt_27 rfl (lv_at hl 1 rfl) ?_
      refine lv_aload_n hx hb dX9_burntMelt_28 rfl (lv_at hl 0 rfl) ?_
      refine rGet (k := 5) C hW (wB_lt (r := 0) hk (by decide)) (tm_Works0 hk) rfl inX9 (by decide) fl_X9_43 rfl dX9_burntMelt_29 ?_
      refine lv_iload_n hx hb dX9_burntMelt_32 rfl (lv_at hl 1 rfl) ?_
      have s1002 : vin (z) 7 := Classical.byContradiction fun q9 => by rw [if_neg q9] at h; cases h
      rw [if_pos s1002] at h
      refine rIld C hW (wB_lt hk (by decide)) (tm_settings hk) s1002 dX9_burntMelt_33 ?_
      obtain ⟨r1003, M1004, h1005, h⟩ := bind2 h
      refine cBack C.2.2.2.2.2.2.2.2 (runV (As := [.int (z), .int (M (40 + k) (z : Int32).toNatClampNeg)]) (rest := [.int (z), rf g (wB k + 35)]) C hW hS (c_X6_lossOf l g M (wB k + 4) k 6 z (M (40 + k) (z : Int32).toNatClampNeg) (MX_melt hk) _ _ h1005) kV_X6_lossOf ml_X9_110 (MX_melt hk).lt (MX_melt hk).cel rfl rfl rfl hl.1 rfl (Nat.le_of_ble_eq_true rfl) ⟨Nat.le_of_ble_eq_true rfl, Nat.le_of_ble_eq_true rfl⟩ ⟨Nat.zero_le _, Nat.zero_le _⟩ dX9_burntMelt_34) hS (fun v0 w0 H locs hp hW hS => ?_)
      obtain ⟨rfl, rfl⟩ := hp
      refine lv_ineg hx hb dX9_burntMelt_37 ?_
      obtain ⟨r1006, M1007, h1008, h⟩ := bind2 h
      refine cBackV C.2.2.2.2.2.2.2.2 (runV (As := [.int (z), .int (-(r1003))]) (rest := []) C hW hS (c_X6_put l g M1004 (wB k + 35) (65 + k) 0 z (-(r1003)) (MX_burnt hk) _ _ h1008) kV_X6_put ml_X9_114 (MX_burnt hk).lt (MX_burnt hk).cel rfl rfl rfl hl.1 rfl (Nat.le_of_ble_eq_true rfl) ⟨Nat.le_of_ble_eq_true rfl, Nat.le_of_ble_eq_true rfl⟩ ⟨Nat.zero_le _, Nat.zero_le _⟩ dX9_burntMelt_38) hS (fun v0 H locs hp hW hS => ?_)
      subst hp
      refine lv_iinc (v := z + 1) (lv' := [(1, .int (z + 1)), (0, rf g (wB k))]) hx hb dX9_burntMelt_41 hl (k := 1) rfl rfl (by decide) rfl (fun ls hl => ?_)
      refine lv_goto (tgt := 13) hx hb dX9_burntMelt_44 (by decide) ?_
      exact ih M1007 (z + 1) h _ _ hW hS ls (lv_sub hl [1, 0] rfl)
set_option maxHeartbeats 4000000 in
set_option maxRecDepth 100000 in
theorem c_X9_burntMelt (l : Launch) (g : GD) (M : MM) (k : Nat) (hk : k < 5) (r : Unit) (M2 : MM) (h : f_X9_burntMelt M k = some (r, M2)) : Met l yX9_burntMelt (wm yX9_burntMelt cX9_burntMelt 2 (some (.object "BellFoundry$Mixture"))) (RM 2 43) (va_Pc [rf g (wB k)] (WDp g M)) (QQ g (fun v w0 => v = rf g (wB k + 35) ∧ M2 = w0)) 0 0 (AA g) := by
  refine mkM (by decide +kernel) (Nat.le_of_ble_eq_true rfl) ?_
  intro p e s m below meth c C hr hlk hW hS ls hl
  have hl : lv_has ls 2 [(0, rf g (wB k))] := hl
  have hx := C.1
  have hb := C.2.1
  have hts := C.2.2.2.2.1
  unfold f_X9_burntMelt at h
  refine lv_aload_n hx hb dX9_burntMelt_0 rfl (lv_at hl 0 rfl) ?_
  refine rGet (k := 11) C hW (wB_lt (r := 0) hk (by decide)) (tm_Works0 hk) rfl inX9 (by decide) fl_X9_68 rfl dX9_burntMelt_1 ?_
  refine lv_aload_n hx hb dX9_burntMelt_4 rfl (lv_at hl 0 rfl) ?_
  refine rGet (k := 3) C hW (wB_lt (r := 0) hk (by decide)) (tm_Works0 hk) rfl inX9 (by decide) fl_X9_24 rfl dX9_burntMelt_5 ?_
  obtain ⟨r1, M2, h3, h⟩ := bind2 h
  refine cBackV C.2.2.2.2.2.2.2.2 (runV (As := [rf g (wB k + 4)]) (rest := []) C hW hS (c_X6_copyFrom l g M (wB k + 35) (65 + k) 0 (wB k + 4) k 6 (MX_burnt hk) (MX_melt hk) _ _ h3) kV_X6_copyFrom ml_X9_73 (MX_burnt hk).lt (MX_burnt hk).cel rfl rfl rfl hl.1 rfl (Nat.le_of_ble_eq_true rfl) ⟨Nat.le_of_ble_eq_true rfl, Nat.le_of_ble_eq_true rfl⟩ ⟨Nat.zero_le _, Nat.zero_le _⟩ dX9_burntMelt_8) hS (fun v0 H locs hp hW hS => ?_)
  subst hp
  refine lv_iconst (v := 0) hx hb dX9_burntMelt_11 (by decide) ?_
  refine lv_istore_n (lv' := [(1, .int (0)), (0, rf g (wB k))]) hx hb dX9_burntMelt_12 rfl hl (by decide) rfl (fun ls hl => ?_)
  exact t_X9_burntMelt_13 l g k hk   FU M2 0 _ _ h C hr hlk _ _ hW hS ls (lv_sub hl [1, 0] rfl)
def f_X9_sprueOf (M : MM) (k : Nat) (x : Int32) : Option (Int32 × MM) := (if vin (4) 7 then (bnd2 (f_X10_shareRoundedUp M x (M (40 + k) (4 : Int32).toNatClampNeg)) fun r2 M3 => some (r2, M3)) else none)
set_option maxHeartbeats 4000000 in
set_option maxRecDepth 100000 in
theorem c_X9_sprueOf (l : Launch) (g : GD) (M : MM) (k : Nat) (x : Int32) (hk : k < 5) (r : Int32) (M2 : MM) (h : f_X9_sprueOf M k x = some (r, M2)) : Met l yX9_sprueOf (wm yX9_sprueOf cX9_sprueOf 2 (some .int)) (RM 1 21) (va_Pc [rf g (wB k), .int (x)] (WDp g M)) (QQ g (fun v w0 => v = .int r ∧ M2 = w0)) 0 0 (AA g) := by
  refine mkM (by decide +kernel) (Nat.le_of_ble_eq_true rfl) ?_
  intro p e s m below meth c C hr hlk hW hS ls hl
  have hl : lv_has ls 2 [(0, rf g (wB k)), (1, .int (x))] := hl
  have hx := C.1
  have hb := C.2.1
  have hts := C.2.2.2.2.1
  unfold f_X9_sprueOf at h
  refine lv_iload_n hx hb dX9_sprueOf_0 rfl (lv_at hl 1 rfl) ?_
  refine lv_aload_n hx hb dX9_sprueOf_1 rfl (lv_at hl 0 rfl) ?_
  refine rGet (k := 5) C hW (wB_lt (r := 0) hk (by decide)) (tm_Works0 hk) rfl inX9 (by decide) fl_X9_43 rfl dX9_sprueOf_2 ?_
  refine lv_iconst (v := 4) hx hb dX9_sprueOf_5 (by decide) ?_
  have s1 : vin (4) 7 := Classical.byContradiction fun q9 => by rw [if_neg q9] at h; cases h
  rw [if_pos s1] at h
  refine rIld C hW (wB_lt hk (by decide)) (tm_settings hk) s1 dX9_sprueOf_6 ?_
  obtain ⟨r2, M3, h4, h⟩ := bind2 h
  refine cBack C.2.2.2.2.2.2.2.2 (runSN (As := [.int (x), .int (M (40 + k) (4 : Int32).toNatClampNeg)]) (rest := []) C hW hS (c_X10_shareRoundedUp l g M x (M (40 + k) (4 : Int32).toNatClampNeg) _ _ h4) kS_X10_shareRoundedUp ml_X9_118 rfl hl.1 rfl (Nat.le_of_ble_eq_true rfl) ⟨Nat.le_of_ble_eq_true rfl, Nat.le_of_ble_eq_true rfl⟩ ⟨Nat.zero_le _, Nat.zero_le _⟩ dX9_sprueOf_7) hS (fun v0 w0 H locs hp hW hS => ?_)
  obtain ⟨rfl, rfl⟩ := hp
  cases h
  exact rI C hr hlk dX9_sprueOf_10 hW hS ⟨rfl, rfl⟩
def f_X9_weightWithSprue (M : MM) (k : Nat) (x : Int32) : Option (Int32 × MM) := (bnd2 (f_X9_sprueOf M k x) fun r1 M2 => some ((x) + (r1), M2))
set_option maxHeartbeats 4000000 in
set_option maxRecDepth 100000 in
theorem c_X9_weightWithSprue (l : Launch) (g : GD) (M : MM) (k : Nat) (x : Int32) (hk : k < 5) (r : Int32) (M2 : MM) (h : f_X9_weightWithSprue M k x = some (r, M2)) : Met l yX9_weightWithSprue (wm yX9_weightWithSprue cX9_weightWithSprue 2 (some .int)) (RM 2 42) (va_Pc [rf g (wB k), .int (x)] (WDp g M)) (QQ g (fun v w0 => v = .int r ∧ M2 = w0)) 0 0 (AA g) := by
  refine mkM (by decide +kernel) (Nat.le_of_ble_eq_true rfl) ?_
  intro p e s m below meth c C hr hlk hW hS ls hl
  have hl : lv_has ls 2 [(0, rf g (wB k)), (1, .int (x))] := hl
  have hx := C.1
  have hb := C.2.1
  have hts := C.2.2.2.2.1
  unfold f_X9_weightWithSprue at h
  refine lv_iload_n hx hb dX9_weightWithSprue_0 rfl (lv_at hl 1 rfl) ?_
  refine lv_aload_n hx hb dX9_weightWithSprue_1 rfl (lv_at hl 0 rfl) ?_
  refine lv_iload_n hx hb dX9_weightWithSprue_2 rfl (lv_at hl 1 rfl) ?_
  obtain ⟨r1, M2, h3, h⟩ := bind2 h
  refine cBack C.2.2.2.2.2.2.2.2 (runV (As := [.int (x)]) (rest := [.int (x)]) C hW hS (c_X9_sprueOf l g M k x hk _ _ h3) kV_X9_sprueOf ml_X9_121 (wB_lt (r := 0) hk (by decide)) (tm_Works0 hk) rfl rfl rfl hl.1 rfl (Nat.le_of_ble_eq_true rfl) ⟨Nat.le_of_ble_eq_true rfl, Nat.le_of_ble_eq_true rfl⟩ ⟨Nat.zero_le _, Nat.zero_le _⟩ dX9_weightWithSprue_3) hS (fun v0 w0 H locs hp hW hS => ?_)
  obtain ⟨rfl, rfl⟩ := hp
  refine lv_iadd hx hb dX9_weightWithSprue_6 ?_
  cases h
  exact rI C hr hlk dX9_weightWithSprue_7 hW hS ⟨rfl, rfl⟩
def lp_X10_rootOf_6 (fu : Nat) (M : MM)  (x : Int32) (u : Int32) (z : Int32) : Option (Int32 × MM) := match fu with
  | 0 => none
  | n + 1 => (if (z : Int32) < (1 : Int32) then some (u, M) else (bnd2 (f_X10_cube M (Int32.toInt64 ((u) + (z)))) fun r1002 M1003 => (if 0 < (lg_cmp (r1002) ((1000000) * (Int32.toInt64 (x))) : Int32) then (lp_X10_rootOf_6 n M1003   x u ((z) / (2))) else (lp_X10_rootOf_6 n M1003   x ((u) + (z)) ((z) / (2))))))
def f_X10_rootOf (M : MM) (x : Int32) : Option (Int32 × MM) := (lp_X10_rootOf_6 FU M   x 1 2048)
set_option maxHeartbeats 4000000 in
set_option maxRecDepth 100000 in
theorem t_X10_rootOf_6 (l : Launch) (g : GD) {p : Program} {e : Env} {s : State} {m : MethodId} {av : Array Value} {below : List Frame} {meth : Method} {c : Code}  (n : Nat) : ∀ (M : MM) (x : Int32) (u : Int32) (z : Int32) (r : Int32) (M2 : MM), lp_X10_rootOf_6 n M   x u z = some (r, M2) → CX p s m av c cX10_rootOf 3 RX10 g → meth.sig.returnType = (some .int) → meth.locks = false → ∀ (H : Heap) (locs : List Loc), Wd g M H → sS g s H locs → ∀ ls : Array Slot, lv_has ls 3 [(0, .int (x)), (1, .int (u)), (2, .int (z))] → W p l e (RM 1 21) s m av below meth c H locs 0 0 (MQ below (QQ g (fun v w0 => v = .int r ∧ M2 = w0)) av s 0 0 (AA g)) (F0 m 6 ls []) := by
  induction n with
  | zero => intro M x u z r M2 h; cases h
  | succ n ih0 =>
    intro M x u z r M2 h C hr hlk H locs hW hS ls hl
    have ih : ∀ (M : MM) (x : Int32) (u : Int32) (z : Int32), lp_X10_rootOf_6 n M   x u z = some (r, M2) → ∀ (H : Heap) (locs : List Loc), Wd g M H → sS g s H locs → ∀ ls : Array Slot, lv_has ls 3 [(0, .int (x)), (1, .int (u)), (2, .int (z))] → W p l e (RM 1 21) s m av below meth c H locs 0 0 (MQ below (QQ g (fun v w0 => v = .int r ∧ M2 = w0)) av s 0 0 (AA g)) (F0 m 6 ls []) := fun M x u z h H locs hW hS ls hl => ih0 M x u z r M2 h C hr hlk H locs hW hS ls hl
    unfold lp_X10_rootOf_6 at h
    try dsimp only at h
    have hx := C.1
    have hb := C.2.1
    have hts := C.2.2.2.2.1
    refine lv_iload_n hx hb dX10_rootOf_6 rfl (lv_at hl 2 rfl) ?_
    refine lv_iconst (v := 1) hx hb dX10_rootOf_7 (by decide) ?_
    refine lv_icmp_lt (tgt := 39) hx hb dX10_rootOf_8 (by decide) (fun c1001 => ?_) (fun c1001 => ?_)
    · rw [if_pos c1001] at h
      refine lv_iload_n hx hb dX10_rootOf_39 rfl (lv_at hl 1 rfl) ?_
      cases h
      exact rI C hr hlk dX10_rootOf_40 hW hS ⟨rfl, rfl⟩
    · rw [if_neg c1001] at h
      refine lv_iload_n hx hb dX10_rootOf_11 rfl (lv_at hl 1 rfl) ?_
      refine lv_iload_n hx hb dX10_rootOf_12 rfl (lv_at hl 2 rfl) ?_
      refine lv_iadd hx hb dX10_rootOf_13 ?_
      refine lv_i2l hx hb dX10_rootOf_14 rfl ?_
      obtain ⟨r1002, M1003, h1004, h⟩ := bind2 h
      refine cBack C.2.2.2.2.2.2.2.2 (runS (As := [.long (Int32.toInt64 ((u) + (z)))]) (rest := []) C hW hS (c_X10_cube l g M (Int32.toInt64 ((u) + (z))) _ _ h1004) kS_X10_cube ml_X10_272 rfl hl.1 rfl (Nat.le_of_ble_eq_true rfl) ⟨Nat.le_of_ble_eq_true rfl, Nat.le_of_ble_eq_true rfl⟩ ⟨Nat.zero_le _, Nat.zero_le _⟩ dX10_rootOf_15) hS (fun v0 w0 H locs hp hW hS => ?_)
      obtain ⟨rfl, rfl⟩ := hp
      refine lv_ldc2 hx hb C.2.2.2.1 (C.2.2.2.2.1 _ kc_X10_276) dX10_rootOf_18 ?_
      refine lv_iload_n hx hb dX10_rootOf_21 rfl (lv_at hl 0 rfl) ?_
      refine lv_i2l hx hb dX10_rootOf_22 rfl ?_
      refine lv_lmul hx hb dX10_rootOf_23 ?_
      refine W.lcmp hx hb dX10_rootOf_24 ?_
      refine lv_if_gt (tgt := 32) hx hb dX10_rootOf_25 (by decide) (fun c1005 => ?_) (fun c1005 => ?_)
      · rw [if_pos c1005] at h
        refine lv_iload_n hx hb dX10_rootOf_32 rfl (lv_at hl 2 rfl) ?_
        refine lv_iconst (v := 2) hx hb dX10_rootOf_33 (by decide) ?_
        refine lv_idiv hx hb dX10_rootOf_34 (by decide) ?_
        refine lv_istore_n (lv' := [(2, .int ((z) / (2))), (0, .int (x)), (1, .int (u))]) hx hb dX10_rootOf_35 rfl hl (by decide) rfl (fun ls hl => ?_)
        refine lv_goto (tgt := 6) hx hb dX10_rootOf_36 (by decide) ?_
        exact ih M1003 x u ((z) / (2)) h _ _ hW hS ls (lv_sub hl [1, 2, 0] rfl)
      · rw [if_neg c1005] at h
        refine lv_iload_n hx hb dX10_rootOf_28 rfl (lv_at hl 1 rfl) ?_
        refine lv_iload_n hx hb dX10_rootOf_29 rfl (lv_at hl 2 rfl) ?_
        refine lv_iadd hx hb dX10_rootOf_30 ?_
        refine lv_istore_n (lv' := [(1, .int ((u) + (z))), (0, .int (x)), (2, .int (z))]) hx hb dX10_rootOf_31 rfl hl (by decide) rfl (fun ls hl => ?_)
        refine lv_iload_n hx hb dX10_rootOf_32 rfl (lv_at hl 2 rfl) ?_
        refine lv_iconst (v := 2) hx hb dX10_rootOf_33 (by decide) ?_
        refine lv_idiv hx hb dX10_rootOf_34 (by decide) ?_
        refine lv_istore_n (lv' := [(2, .int ((z) / (2))), (1, .int ((u) + (z))), (0, .int (x))]) hx hb dX10_rootOf_35 rfl hl (by decide) rfl (fun ls hl => ?_)
        refine lv_goto (tgt := 6) hx hb dX10_rootOf_36 (by decide) ?_
        exact ih M1003 x ((u) + (z)) ((z) / (2)) h _ _ hW hS ls (lv_sub hl [2, 1, 0] rfl)
set_option maxHeartbeats 4000000 in
set_option maxRecDepth 100000 in
theorem c_X10_rootOf (l : Launch) (g : GD) (M : MM) (x : Int32) (r : Int32) (M2 : MM) (h : f_X10_rootOf M x = some (r, M2)) : Met l yX10_rootOf (wm yX10_rootOf cX10_rootOf 3 (some .int)) (RM 1 21) (va_Pc [.int (x)] (WDp g M)) (QQ g (fun v w0 => v = .int r ∧ M2 = w0)) 0 0 (AA g) := by
  refine mkM (by decide +kernel) (Nat.le_of_ble_eq_true rfl) ?_
  intro p e s m below meth c C hr hlk hW hS ls hl
  have hl : lv_has ls 3 [(0, .int (x))] := hl
  have hx := C.1
  have hb := C.2.1
  have hts := C.2.2.2.2.1
  unfold f_X10_rootOf at h
  refine lv_iconst (v := 1) hx hb dX10_rootOf_0 (by decide) ?_
  refine lv_istore_n (lv' := [(1, .int (1)), (0, .int (x))]) hx hb dX10_rootOf_1 rfl hl (by decide) rfl (fun ls hl => ?_)
  refine lv_sipush (v := 2048) hx hb dX10_rootOf_2 (by decide) ?_
  refine lv_istore_n (lv' := [(2, .int (2048)), (1, .int (1)), (0, .int (x))]) hx hb dX10_rootOf_5 rfl hl (by decide) rfl (fun ls hl => ?_)
  exact t_X10_rootOf_6 l g    FU M x 1 2048 _ _ h C hr hlk _ _ hW hS ls (lv_sub hl [2, 1, 0] rfl)
def f_X9_castBell (M : MM) (k : Nat) (x : Int32) (y : Int32) : Option (Int32 × MM) := (bnd2 (f_X9_burn M k k 6) fun r1 M2 => (if vin (M2 k 52) 100 then (bnd2 (f_X6_drawInto M2 k 6 k (54 + 8 * (M2 k 52 : Int32).toNatClampNeg) y) fun r5 M6 => (bnd2 (f_X9_sprueOf M6 k y) fun r8 M9 => (bnd2 (f_X6_drawInto M9 k 6 (60 + k) 0 r8) fun r11 M12 => (bnd2 (f_X2_add M12 k (60 + k) 0 0) fun r14 M15 => (bnd2 (f_X6_alloy M15 k (54 + 8 * (M2 k 52 : Int32).toNatClampNeg)) fun r17 M18 => (letB (up2 M18 k (56 + 8 * (M2 k 52 : Int32).toNatClampNeg) (x)) fun M20 => (bnd2 (f_X10_rootOf M20 y) fun r21 M22 => (bnd2 (f_X10_firstPitch M22 x r21 r17) fun r24 M25 => (letB (up2 M25 k (57 + 8 * (M2 k 52 : Int32).toNatClampNeg) (r24)) fun M27 => (letB (up2 M27 k (58 + 8 * (M2 k 52 : Int32).toNatClampNeg) (y)) fun M28 => (letB (up2 M28 k (59 + 8 * (M2 k 52 : Int32).toNatClampNeg) (0)) fun M29 => (if vin (2) 7 then (if vin (3) 7 then (bnd2 (f_X10_isIn M29 r17 (M29 (40 + k) (2 : Int32).toNatClampNeg) (M29 (40 + k) (3 : Int32).toNatClampNeg)) fun r32 M33 => (if (r32 : Int32) = 0 then (letB (up2 M33 k (60 + 8 * (M2 k 52 : Int32).toNatClampNeg) (1)) fun M36 => (letB (up2 M36 k (61 + 8 * (M2 k 52 : Int32).toNatClampNeg) (0)) fun M37 => (letB (up2 M37 k 52 ((M37 k 52) + (1))) fun M38 => some ((M38 k 52) - (1), M38)))) else (letB (up2 M33 k (60 + 8 * (M2 k 52 : Int32).toNatClampNeg) (0)) fun M39 => (letB (up2 M39 k (61 + 8 * (M2 k 52 : Int32).toNatClampNeg) (0)) fun M40 => (letB (up2 M40 k 52 ((M40 k 52) + (1))) fun M41 => some ((M41 k 52) - (1), M41)))))) else none) else none)))))))))))) else none))
set_option maxHeartbeats 4000000 in
set_option maxRecDepth 100000 in
theorem c_X9_castBell (l : Launch) (g : GD) (M : MM) (k : Nat) (x : Int32) (y : Int32) (hk : k < 5) (r : Int32) (M2 : MM) (h : f_X9_castBell M k x y = some (r, M2)) : Met l yX9_castBell (wm yX9_castBell cX9_castBell 5 (some .int)) (RM 3 66) (va_Pc [rf g (wB k), .int (x), .int (y)] (WDp g M)) (QQ g (fun v w0 => v = .int r ∧ M2 = w0)) 0 0 (AA g) := by
  refine mkM (by decide +kernel) (Nat.le_of_ble_eq_true rfl) ?_
  intro p e s m below meth c C hr hlk hW hS ls hl
  have hl : lv_has ls 5 [(0, rf g (wB k)), (1, .int (x)), (2, .int (y))] := hl
  have hx := C.1
  have hb := C.2.1
  have hts := C.2.2.2.2.1
  unfold f_X9_castBell at h
  refine lv_aload_n hx hb dX9_castBell_0 rfl (lv_at hl 0 rfl) ?_
  refine lv_aload_n hx hb dX9_castBell_1 rfl (lv_at hl 0 rfl) ?_
  refine rGet (k := 3) C hW (wB_lt (r := 0) hk (by decide)) (tm_Works0 hk) rfl inX9 (by decide) fl_X9_24 rfl dX9_castBell_2 ?_
  obtain ⟨r1, M2, h3, h⟩ := bind2 h
  refine cBackV C.2.2.2.2.2.2.2.2 (runV (As := [rf g (wB k + 4)]) (rest := []) C hW hS (c_X9_burn l g M k (wB k + 4) k 6 hk (MX_melt hk) _ _ h3) kV_X9_burn ml_X9_104 (wB_lt (r := 0) hk (by decide)) (tm_Works0 hk) rfl rfl rfl hl.1 rfl (Nat.le_of_ble_eq_true rfl) ⟨Nat.le_of_ble_eq_true rfl, Nat.le_of_ble_eq_true rfl⟩ ⟨Nat.zero_le _, Nat.zero_le _⟩ dX9_castBell_5) hS (fun v0 H locs hp hW hS => ?_)
  subst hp
  refine lv_aload_n hx hb dX9_castBell_8 rfl (lv_at hl 0 rfl) ?_
  refine rGet (k := 6) C hW (wB_lt (r := 0) hk (by decide)) (tm_Works0 hk) rfl inX9 (by decide) fl_X9_48 rfl dX9_castBell_9 ?_
  refine lv_aload_n hx hb dX9_castBell_12 rfl (lv_at hl 0 rfl) ?_
  refine rGet (k := 8) C hW (wB_lt (r := 0) hk (by decide)) (tm_Works0 hk) rfl inX9 (by decide) fl_X9_58 rfl dX9_castBell_13 ?_
  have s4 : vin (M2 k 52) 100 := Classical.byContradiction fun q9 => by rw [if_neg q9] at h; cases h
  rw [if_pos s4] at h
  refine rRld (j := 4) C hW (wB_lt hk (by decide)) (tm_bells hk) rfl s4 dX9_castBell_16 ?_
  refine lv_astore_n (lv' := [(3, rf g (wB k + (36 + 2 * (M2 k 52 : Int32).toNatClampNeg))), (0, rf g (wB k)), (1, .int (x)), (2, .int (y))]) hx hb dX9_castBell_17 rfl hl (by decide) rfl (fun ls hl => ?_)
  refine lv_aload_n hx hb dX9_castBell_18 rfl (lv_at hl 1 rfl) ?_
  refine rGet (k := 3) C hW (wB_lt (r := 0) hk (by decide)) (tm_Works0 hk) rfl inX9 (by decide) fl_X9_24 rfl dX9_castBell_19 ?_
  refine lv_aload_n hx hb dX9_castBell_22 rfl (lv_at hl 0 rfl) ?_
  refine rGetN (k := 0) C hW (wB_lt hk (by have := (vp_lt s4); omega)) (tm_Bell hk (vp_lt s4)) rfl inX0 (by decide) fl_X9_125 rfl dX9_castBell_23 ?_
  refine lv_iload_n hx hb dX9_castBell_26 rfl (lv_at hl 3 rfl) ?_
  obtain ⟨r5, M6, h7, h⟩ := bind2 h
  refine cBackV C.2.2.2.2.2.2.2.2 (runV (As := [rf g (wB k + (37 + 2 * (M2 k 52 : Int32).toNatClampNeg)), .int (y)]) (rest := []) C hW hS (c_X6_drawInto l g M2 (wB k + 4) k 6 (wB k + (37 + 2 * (M2 k 52 : Int32).toNatClampNeg)) k (54 + 8 * (M2 k 52 : Int32).toNatClampNeg) y (MX_melt hk) (MX_bell hk (vp_lt s4)) _ _ h7) kV_X6_drawInto ml_X9_126 (MX_melt hk).lt (MX_melt hk).cel rfl rfl rfl hl.1 rfl (Nat.le_of_ble_eq_true rfl) ⟨Nat.le_of_ble_eq_true rfl, Nat.le_of_ble_eq_true rfl⟩ ⟨Nat.zero_le _, Nat.zero_le _⟩ dX9_castBell_27) hS (fun v0 H locs hp hW hS => ?_)
  subst hp
  refine lv_aload_n hx hb dX9_castBell_30 rfl (lv_at hl 1 rfl) ?_
  refine rGet (k := 3) C hW (wB_lt (r := 0) hk (by decide)) (tm_Works0 hk) rfl inX9 (by decide) fl_X9_24 rfl dX9_castBell_31 ?_
  refine lv_aload_n hx hb dX9_castBell_34 rfl (lv_at hl 1 rfl) ?_
  refine rGet (k := 10) C hW (wB_lt (r := 0) hk (by decide)) (tm_Works0 hk) rfl inX9 (by decide) fl_X9_65 rfl dX9_castBell_35 ?_
  refine lv_aload_n hx hb dX9_castBell_38 rfl (lv_at hl 1 rfl) ?_
  refine lv_iload_n hx hb dX9_castBell_39 rfl (lv_at hl 3 rfl) ?_
  obtain ⟨r8, M9, h10, h⟩ := bind2 h
  refine cBack C.2.2.2.2.2.2.2.2 (runV (As := [.int (y)]) (rest := [rf g (wB k + 34), rf g (wB k + 4)]) C hW hS (c_X9_sprueOf l g M6 k y hk _ _ h10) kV_X9_sprueOf ml_X9_121 (wB_lt (r := 0) hk (by decide)) (tm_Works0 hk) rfl rfl rfl hl.1 rfl (Nat.le_of_ble_eq_true rfl) ⟨Nat.le_of_ble_eq_true rfl, Nat.le_of_ble_eq_true rfl⟩ ⟨Nat.zero_le _, Nat.zero_le _⟩ dX9_castBell_40) hS (fun v0 w0 H locs hp hW hS => ?_)
  obtain ⟨rfl, rfl⟩ := hp
  obtain ⟨r11, M12, h13, h⟩ := bind2 h
  refine cBackV C.2.2.2.2.2.2.2.2 (runV (As := [rf g (wB k + 34), .int (r8)]) (rest := []) C hW hS (c_X6_drawInto l g M9 (wB k + 4) k 6 (wB k + 34) (60 + k) 0 r8 (MX_melt hk) (MX_ladle hk) _ _ h13) kV_X6_drawInto ml_X9_126 (MX_melt hk).lt (MX_melt hk).cel rfl rfl rfl hl.1 rfl (Nat.le_of_ble_eq_true rfl) ⟨Nat.le_of_ble_eq_true rfl, Nat.le_of_ble_eq_true rfl⟩ ⟨Nat.zero_le _, Nat.zero_le _⟩ dX9_castBell_43) hS (fun v0 H locs hp hW hS => ?_)
  subst hp
  refine lv_aload_n hx hb dX9_castBell_46 rfl (lv_at hl 1 rfl) ?_
  refine rGet (k := 4) C hW (wB_lt (r := 0) hk (by decide)) (tm_Works0 hk) rfl inX9 (by decide) fl_X9_30 rfl dX9_castBell_47 ?_
  refine lv_aload_n hx hb dX9_castBell_50 rfl (lv_at hl 1 rfl) ?_
  refine rGet (k := 10) C hW (wB_lt (r := 0) hk (by decide)) (tm_Works0 hk) rfl inX9 (by decide) fl_X9_65 rfl dX9_castBell_51 ?_
  refine lv_iconst (v := 0) hx hb dX9_castBell_54 (by decide) ?_
  obtain ⟨r14, M15, h16, h⟩ := bind2 h
  refine cBackV C.2.2.2.2.2.2.2.2 (runV (As := [rf g (wB k + 34), .int (0)]) (rest := []) C hW hS (c_X2_add l g M12 k (wB k + 34) (60 + k) 0 0 hk (MX_ladle hk) _ _ h16) kV_X2_add ml_X9_130 (wB_lt hk (by decide)) (tm_Heap hk) rfl rfl rfl hl.1 rfl (Nat.le_of_ble_eq_true rfl) ⟨Nat.le_of_ble_eq_true rfl, Nat.le_of_ble_eq_true rfl⟩ ⟨Nat.zero_le _, Nat.zero_le _⟩ dX9_castBell_55) hS (fun v0 H locs hp hW hS => ?_)
  subst hp
  refine lv_aload_n hx hb dX9_castBell_58 rfl (lv_at hl 0 rfl) ?_
  refine rGetN (k := 0) C hW (wB_lt hk (by have := (vp_lt s4); omega)) (tm_Bell hk (vp_lt s4)) rfl inX0 (by decide) fl_X9_125 rfl dX9_castBell_59 ?_
  obtain ⟨r17, M18, h19, h⟩ := bind2 h
  refine cBack C.2.2.2.2.2.2.2.2 (runV (As := []) (rest := []) C hW hS (c_X6_alloy l g M15 (wB k + (37 + 2 * (M2 k 52 : Int32).toNatClampNeg)) k (54 + 8 * (M2 k 52 : Int32).toNatClampNeg) (MX_bell hk (vp_lt s4)) _ _ h19) kV_X6_alloy ml_X9_133 (MX_bell hk (vp_lt s4)).lt (MX_bell hk (vp_lt s4)).cel rfl rfl rfl hl.1 rfl (Nat.le_of_ble_eq_true rfl) ⟨Nat.le_of_ble_eq_true rfl, Nat.le_of_ble_eq_true rfl⟩ ⟨Nat.zero_le _, Nat.zero_le _⟩ dX9_castBell_62) hS (fun v0 w0 H locs hp hW hS => ?_)
  obtain ⟨rfl, rfl⟩ := hp
  refine lv_istore (lv' := [(4, .int (r17)), (3, rf g (wB k + (36 + 2 * (M2 k 52 : Int32).toNatClampNeg))), (0, rf g (wB k)), (1, .int (x)), (2, .int (y))]) hx hb dX9_castBell_65 hl (by decide) rfl (fun ls hl => ?_)
  refine lv_aload_n hx hb dX9_castBell_67 rfl (lv_at hl 1 rfl) ?_
  refine lv_iload_n hx hb dX9_castBell_68 rfl (lv_at hl 3 rfl) ?_
  refine rPutN (k := 1) C hW hS (wB_lt hk (by have := (vp_lt s4); omega)) (tm_Bell hk (vp_lt s4)) rfl inX0 tyX0_ok nmX0 (by decide) fl_X9_137 rfl (by decide +kernel) (Nat.le_of_ble_eq_true rfl) (upd_Bell_profile hk (vp_lt s4) _) dX9_castBell_69 (fun H locs hW hS => ?_)
  have hW : Wd g (up2 M18 k (56 + 8 * (M2 k 52 : Int32).toNatClampNeg) (x)) H := hW
  have h := letE h
  generalize up2 M18 k (56 + 8 * (M2 k 52 : Int32).toNatClampNeg) (x) = M20 at hW h
  refine lv_aload_n hx hb dX9_castBell_72 rfl (lv_at hl 1 rfl) ?_
  refine lv_iload_n hx hb dX9_castBell_73 rfl (lv_at hl 3 rfl) ?_
  refine lv_iload_n hx hb dX9_castBell_74 rfl (lv_at hl 4 rfl) ?_
  obtain ⟨r21, M22, h23, h⟩ := bind2 h
  refine cBack C.2.2.2.2.2.2.2.2 (runSN (As := [.int (y)]) (rest := [.int (x), rf g (wB k + (36 + 2 * (M2 k 52 : Int32).toNatClampNeg))]) C hW hS (c_X10_rootOf l g M20 y _ _ h23) kS_X10_rootOf ml_X9_140 rfl hl.1 rfl (Nat.le_of_ble_eq_true rfl) ⟨Nat.le_of_ble_eq_true rfl, Nat.le_of_ble_eq_true rfl⟩ ⟨Nat.zero_le _, Nat.zero_le _⟩ dX9_castBell_75) hS (fun v0 w0 H locs hp hW hS => ?_)
  obtain ⟨rfl, rfl⟩ := hp
  refine lv_iload hx hb dX9_castBell_78 (lv_at hl 0 rfl) ?_
  obtain ⟨r24, M25, h26, h⟩ := bind2 h
  refine cBack C.2.2.2.2.2.2.2.2 (runSN (As := [.int (x), .int (r21), .int (r17)]) (rest := [rf g (wB k + (36 + 2 * (M2 k 52 : Int32).toNatClampNeg))]) C hW hS (c_X10_firstPitch l g M22 x r21 r17 _ _ h26) kS_X10_firstPitch ml_X9_143 rfl hl.1 rfl (Nat.le_of_ble_eq_true rfl) ⟨Nat.le_of_ble_eq_true rfl, Nat.le_of_ble_eq_true rfl⟩ ⟨Nat.zero_le _, Nat.zero_le _⟩ dX9_castBell_80) hS (fun v0 w0 H locs hp hW hS => ?_)
  obtain ⟨rfl, rfl⟩ := hp
  refine rPutN (k := 2) C hW hS (wB_lt hk (by have := (vp_lt s4); omega)) (tm_Bell hk (vp_lt s4)) rfl inX0 tyX0_ok nmX0 (by decide) fl_X9_147 rfl (by decide +kernel) (Nat.le_of_ble_eq_true rfl) (upd_Bell_pitch hk (vp_lt s4) _) dX9_castBell_83 (fun H locs hW hS => ?_)
  have hW : Wd g (up2 M25 k (57 + 8 * (M2 k 52 : Int32).toNatClampNeg) (r24)) H := hW
  have h := letE h
  generalize up2 M25 k (57 + 8 * (M2 k 52 : Int32).toNatClampNeg) (r24) = M27 at hW h
  refine lv_aload_n hx hb dX9_castBell_86 rfl (lv_at hl 1 rfl) ?_
  refine lv_iload_n hx hb dX9_castBell_87 rfl (lv_at hl 4 rfl) ?_
  refine rPutN (k := 3) C hW hS (wB_lt hk (by have := (vp_lt s4); omega)) (tm_Bell hk (vp_lt s4)) rfl inX0 tyX0_ok nmX0 (by decide) fl_X9_150 rfl (by decide +kernel) (Nat.le_of_ble_eq_true rfl) (upd_Bell_weightPoured hk (vp_lt s4) _) dX9_castBell_88 (fun H locs hW hS => ?_)
  have hW : Wd g (up2 M27 k (58 + 8 * (M2 k 52 : Int32).toNatClampNeg) (y)) H := hW
  have h := letE h
  generalize up2 M27 k (58 + 8 * (M2 k 52 : Int32).toNatClampNeg) (y) = M28 at hW h
  refine lv_aload_n hx hb dX9_castBell_91 rfl (lv_at hl 1 rfl) ?_
  refine lv_iconst (v := 0) hx hb dX9_castBell_92 (by decide) ?_
  refine rPutN (k := 4) C hW hS (wB_lt hk (by have := (vp_lt s4); omega)) (tm_Bell hk (vp_lt s4)) rfl inX0 tyX0_ok nmX0 (by decide) fl_X9_153 rfl (by decide +kernel) (Nat.le_of_ble_eq_true rfl) (upd_Bell_drawn hk (vp_lt s4) _) dX9_castBell_93 (fun H locs hW hS => ?_)
  have hW : Wd g (up2 M28 k (59 + 8 * (M2 k 52 : Int32).toNatClampNeg) (0)) H := hW
  have h := letE h
  generalize up2 M28 k (59 + 8 * (M2 k 52 : Int32).toNatClampNeg) (0) = M29 at hW h
  refine lv_aload_n hx hb dX9_castBell_96 rfl (lv_at hl 1 rfl) ?_
  refine lv_iload hx hb dX9_castBell_97 (lv_at hl 0 rfl) ?_
  refine lv_aload_n hx hb dX9_castBell_99 rfl (lv_at hl 2 rfl) ?_
  refine rGet (k := 5) C hW (wB_lt (r := 0) hk (by decide)) (tm_Works0 hk) rfl inX9 (by decide) fl_X9_43 rfl dX9_castBell_100 ?_
  refine lv_iconst (v := 2) hx hb dX9_castBell_103 (by decide) ?_
  have s30 : vin (2) 7 := Classical.byContradiction fun q9 => by rw [if_neg q9] at h; cases h
  rw [if_pos s30] at h
  refine rIld C hW (wB_lt hk (by decide)) (tm_settings hk) s30 dX9_castBell_104 ?_
  refine lv_aload_n hx hb dX9_castBell_105 rfl (lv_at hl 2 rfl) ?_
  refine rGet (k := 5) C hW (wB_lt (r := 0) hk (by decide)) (tm_Works0 hk) rfl inX9 (by decide) fl_X9_43 rfl dX9_castBell_106 ?_
  refine lv_iconst (v := 3) hx hb dX9_castBell_109 (by decide) ?_
  have s31 : vin (3) 7 := Classical.byContradiction fun q9 => by rw [if_neg q9] at h; cases h
  rw [if_pos s31] at h
  refine rIld C hW (wB_lt hk (by decide)) (tm_settings hk) s31 dX9_castBell_110 ?_
  obtain ⟨r32, M33, h34, h⟩ := bind2 h
  refine cBack C.2.2.2.2.2.2.2.2 (runSN (As := [.int (r17), .int (M29 (40 + k) (2 : Int32).toNatClampNeg), .int (M29 (40 + k) (3 : Int32).toNatClampNeg)]) (rest := [rf g (wB k + (36 + 2 * (M2 k 52 : Int32).toNatClampNeg))]) C hW hS (c_X10_isIn l g M29 r17 (M29 (40 + k) (2 : Int32).toNatClampNeg) (M29 (40 + k) (3 : Int32).toNatClampNeg) _ _ h34) kS_X10_isIn ml_X9_92 rfl hl.1 rfl (Nat.le_of_ble_eq_true rfl) ⟨Nat.le_of_ble_eq_true rfl, Nat.le_of_ble_eq_true rfl⟩ ⟨Nat.zero_le _, Nat.zero_le _⟩ dX9_castBell_111) hS (fun v0 w0 H locs hp hW hS => ?_)
  obtain ⟨rfl, rfl, zr32⟩ := hp
  refine lv_if_eq (tgt := 121) hx hb dX9_castBell_114 (by decide) (fun c35 => ?_) (fun c35 => ?_)
  · rw [if_pos c35] at h
    refine lv_iconst (v := 1) hx hb dX9_castBell_121 (by decide) ?_
    refine rPutN (k := 5) C hW hS (wB_lt hk (by have := (vp_lt s4); omega)) (tm_Bell hk (vp_lt s4)) rfl inX0 tyX0_ok nmX0 (by decide) fl_X9_156 rfl (by decide +kernel) (Nat.le_of_ble_eq_true rfl) (upd_Bell_state hk (vp_lt s4) _) dX9_castBell_122 (fun H locs hW hS => ?_)
    have hW : Wd g (up2 M33 k (60 + 8 * (M2 k 52 : Int32).toNatClampNeg) (1)) H := hW
    have h := letE h
    generalize up2 M33 k (60 + 8 * (M2 k 52 : Int32).toNatClampNeg) (1) = M36 at hW h
    refine lv_aload_n hx hb dX9_castBell_125 rfl (lv_at hl 1 rfl) ?_
    refine lv_iconst (v := 0) hx hb dX9_castBell_126 (by decide) ?_
    refine rPutN (k := 6) C hW hS (wB_lt hk (by have := (vp_lt s4); omega)) (tm_Bell hk (vp_lt s4)) rfl inX0 tyX0_ok nmX0 (by decide) fl_X9_159 rfl (by decide +kernel) (Nat.le_of_ble_eq_true rfl) (upd_Bell_order hk (vp_lt s4) _) dX9_castBell_127 (fun H locs hW hS => ?_)
    have hW : Wd g (up2 M36 k (61 + 8 * (M2 k 52 : Int32).toNatClampNeg) (0)) H := hW
    have h := letE h
    generalize up2 M36 k (61 + 8 * (M2 k 52 : Int32).toNatClampNeg) (0) = M37 at hW h
    refine lv_aload_n hx hb dX9_castBell_130 rfl (lv_at hl 2 rfl) ?_
    refine lv_dup hx hb dX9_castBell_131 rfl ?_
    refine rGet (k := 8) C hW (wB_lt (r := 0) hk (by decide)) (tm_Works0 hk) rfl inX9 (by decide) fl_X9_58 rfl dX9_castBell_132 ?_
    refine lv_iconst (v := 1) hx hb dX9_castBell_135 (by decide) ?_
    refine lv_iadd hx hb dX9_castBell_136 ?_
    refine rPut (k := 8) C hW hS (wB_lt (r := 0) hk (by decide)) (tm_Works0 hk) rfl inX9 tyX9_ok nmX9 (by decide) fl_X9_58 rfl (by decide +kernel) (Nat.le_of_ble_eq_true rfl) (upd_Works_poured hk _) dX9_castBell_137 (fun H locs hW hS => ?_)
    have hW : Wd g (up2 M37 k 52 ((M37 k 52) + (1))) H := hW
    have h := letE h
    generalize up2 M37 k 52 ((M37 k 52) + (1)) = M38 at hW h
    refine lv_aload_n hx hb dX9_castBell_140 rfl (lv_at hl 2 rfl) ?_
    refine rGet (k := 8) C hW (wB_lt (r := 0) hk (by decide)) (tm_Works0 hk) rfl inX9 (by decide) fl_X9_58 rfl dX9_castBell_141 ?_
    refine lv_iconst (v := 1) hx hb dX9_castBell_144 (by decide) ?_
    refine lv_isub hx hb dX9_castBell_145 ?_
    cases h
    exact rI C hr hlk dX9_castBell_146 hW hS ⟨rfl, rfl⟩
  · rw [if_neg c35] at h
    refine lv_iconst (v := 0) hx hb dX9_castBell_117 (by decide) ?_
    refine lv_goto (tgt := 122) hx hb dX9_castBell_118 (by decide) ?_
    refine rPutN (k := 5) C hW hS (wB_lt hk (by have := (vp_lt s4); omega)) (tm_Bell hk (vp_lt s4)) rfl inX0 tyX0_ok nmX0 (by decide) fl_X9_156 rfl (by decide +kernel) (Nat.le_of_ble_eq_true rfl) (upd_Bell_state hk (vp_lt s4) _) dX9_castBell_122 (fun H locs hW hS => ?_)
    have hW : Wd g (up2 M33 k (60 + 8 * (M2 k 52 : Int32).toNatClampNeg) (0)) H := hW
    have h := letE h
    generalize up2 M33 k (60 + 8 * (M2 k 52 : Int32).toNatClampNeg) (0) = M39 at hW h
    refine lv_aload_n hx hb dX9_castBell_125 rfl (lv_at hl 1 rfl) ?_
    refine lv_iconst (v := 0) hx hb dX9_castBell_126 (by decide) ?_
    refine rPutN (k := 6) C hW hS (wB_lt hk (by have := (vp_lt s4); omega)) (tm_Bell hk (vp_lt s4)) rfl inX0 tyX0_ok nmX0 (by decide) fl_X9_159 rfl (by decide +kernel) (Nat.le_of_ble_eq_true rfl) (upd_Bell_order hk (vp_lt s4) _) dX9_castBell_127 (fun H locs hW hS => ?_)
    have hW : Wd g (up2 M39 k (61 + 8 * (M2 k 52 : Int32).toNatClampNeg) (0)) H := hW
    have h := letE h
    generalize up2 M39 k (61 + 8 * (M2 k 52 : Int32).toNatClampNeg) (0) = M40 at hW h
    refine lv_aload_n hx hb dX9_castBell_130 rfl (lv_at hl 2 rfl) ?_
    refine lv_dup hx hb dX9_castBell_131 rfl ?_
    refine rGet (k := 8) C hW (wB_lt (r := 0) hk (by decide)) (tm_Works0 hk) rfl inX9 (by decide) fl_X9_58 rfl dX9_castBell_132 ?_
    refine lv_iconst (v := 1) hx hb dX9_castBell_135 (by decide) ?_
    refine lv_iadd hx hb dX9_castBell_136 ?_
    refine rPut (k := 8) C hW hS (wB_lt (r := 0) hk (by decide)) (tm_Works0 hk) rfl inX9 tyX9_ok nmX9 (by decide) fl_X9_58 rfl (by decide +kernel) (Nat.le_of_ble_eq_true rfl) (upd_Works_poured hk _) dX9_castBell_137 (fun H locs hW hS => ?_)
    have hW : Wd g (up2 M40 k 52 ((M40 k 52) + (1))) H := hW
    have h := letE h
    generalize up2 M40 k 52 ((M40 k 52) + (1)) = M41 at hW h
    refine lv_aload_n hx hb dX9_castBell_140 rfl (lv_at hl 2 rfl) ?_
    refine rGet (k := 8) C hW (wB_lt (r := 0) hk (by decide)) (tm_Works0 hk) rfl inX9 (by decide) fl_X9_58 rfl dX9_castBell_141 ?_
    refine lv_iconst (v := 1) hx hb dX9_castBell_144 (by decide) ?_
    refine lv_isub hx hb dX9_castBell_145 ?_
    cases h
    exact rI C hr hlk dX9_castBell_146 hW hS ⟨rfl, rfl⟩
def f_X9_shave (M : MM) (k : Nat) (j : Nat) (x : Int32) : Option (Unit × MM) := (if vin (5) 7 then (bnd2 (f_X0_pitchBehind M k j x (M (40 + k) (5 : Int32).toNatClampNeg)) fun r2 M3 => (letB (up2 M3 k (57 + 8 * j) (r2)) fun M5 => (bnd2 (f_X0_cracksBy M5 k j x) fun r6 M7 => (if (r6 : Int32) = 0 then (letB (up2 M7 k (59 + 8 * j) ((M7 k (59 + 8 * j)) + (x))) fun M10 => (bnd2 (f_X6_drawInto M10 k (54 + 8 * j) (60 + k) 0 x) fun r11 M12 => (bnd2 (f_X2_add M12 k (60 + k) 0 1) fun r14 M15 => some ((), M15)))) else (letB (up2 M7 k (60 + 8 * j) (1)) fun M17 => (letB (up2 M17 k (59 + 8 * j) ((M17 k (59 + 8 * j)) + (x))) fun M18 => (bnd2 (f_X6_drawInto M18 k (54 + 8 * j) (60 + k) 0 x) fun r19 M20 => (bnd2 (f_X2_add M20 k (60 + k) 0 1) fun r22 M23 => some ((), M23))))))))) else none)
set_option maxHeartbeats 4000000 in
set_option maxRecDepth 100000 in
theorem c_X9_shave (l : Launch) (g : GD) (M : MM) (k : Nat) (j : Nat) (x : Int32) (hk : k < 5) (hj : j < 100) (r : Unit) (M2 : MM) (h : f_X9_shave M k j x = some (r, M2)) : Met l yX9_shave (wm yX9_shave cX9_shave 3 none) (RM 3 65) (va_Pc [rf g (wB k), rf g (wB k + (36 + 2 * j)), .int (x)] (WDp g M)) (QV g (fun w0 => M2 = w0)) 0 0 (AA g) := by
  refine mkM (by decide +kernel) (Nat.le_of_ble_eq_true rfl) ?_
  intro p e s m below meth c C hr hlk hW hS ls hl
  have hl : lv_has ls 3 [(0, rf g (wB k)), (1, rf g (wB k + (36 + 2 * j))), (2, .int (x))] := hl
  have hx := C.1
  have hb := C.2.1
  have hts := C.2.2.2.2.1
  unfold f_X9_shave at h
  refine lv_aload_n hx hb dX9_shave_0 rfl (lv_at hl 1 rfl) ?_
  refine lv_aload_n hx hb dX9_shave_1 rfl (lv_at hl 1 rfl) ?_
  refine lv_iload_n hx hb dX9_shave_2 rfl (lv_at hl 2 rfl) ?_
  refine lv_aload_n hx hb dX9_shave_3 rfl (lv_at hl 0 rfl) ?_
  refine rGet (k := 5) C hW (wB_lt (r := 0) hk (by decide)) (tm_Works0 hk) rfl inX9 (by decide) fl_X9_43 rfl dX9_shave_4 ?_
  refine lv_iconst (v := 5) hx hb dX9_shave_7 (by decide) ?_
  have s1 : vin (5) 7 := Classical.byContradiction fun q9 => by rw [if_neg q9] at h; cases h
  rw [if_pos s1] at h
  refine rIld C hW (wB_lt hk (by decide)) (tm_settings hk) s1 dX9_shave_8 ?_
  obtain ⟨r2, M3, h4, h⟩ := bind2 h
  refine cBack C.2.2.2.2.2.2.2.2 (runV (As := [.int (x), .int (M (40 + k) (5 : Int32).toNatClampNeg)]) (rest := [rf g (wB k + (36 + 2 * j))]) C hW hS (c_X0_pitchBehind l g M k j x (M (40 + k) (5 : Int32).toNatClampNeg) hk hj _ _ h4) kV_X0_pitchBehind ml_X9_162 (wB_lt hk (by have := hj; omega)) (tm_Bell hk hj) rfl rfl rfl hl.1 rfl (Nat.le_of_ble_eq_true rfl) ⟨Nat.le_of_ble_eq_true rfl, Nat.le_of_ble_eq_true rfl⟩ ⟨Nat.zero_le _, Nat.zero_le _⟩ dX9_shave_9) hS (fun v0 w0 H locs hp hW hS => ?_)
  obtain ⟨rfl, rfl⟩ := hp
  refine rPutN (k := 2) C hW hS (wB_lt hk (by have := hj; omega)) (tm_Bell hk hj) rfl inX0 tyX0_ok nmX0 (by decide) fl_X9_147 rfl (by decide +kernel) (Nat.le_of_ble_eq_true rfl) (upd_Bell_pitch hk hj _) dX9_shave_12 (fun H locs hW hS => ?_)
  have hW : Wd g (up2 M3 k (57 + 8 * j) (r2)) H := hW
  have h := letE h
  generalize up2 M3 k (57 + 8 * j) (r2) = M5 at hW h
  refine lv_aload_n hx hb dX9_shave_15 rfl (lv_at hl 1 rfl) ?_
  refine lv_iload_n hx hb dX9_shave_16 rfl (lv_at hl 2 rfl) ?_
  obtain ⟨r6, M7, h8, h⟩ := bind2 h
  refine cBack C.2.2.2.2.2.2.2.2 (runV (As := [.int (x)]) (rest := []) C hW hS (c_X0_cracksBy l g M5 k j x hk hj _ _ h8) kV_X0_cracksBy ml_X9_165 (wB_lt hk (by have := hj; omega)) (tm_Bell hk hj) rfl rfl rfl hl.1 rfl (Nat.le_of_ble_eq_true rfl) ⟨Nat.le_of_ble_eq_true rfl, Nat.le_of_ble_eq_true rfl⟩ ⟨Nat.zero_le _, Nat.zero_le _⟩ dX9_shave_17) hS (fun v0 w0 H locs hp hW hS => ?_)
  obtain ⟨rfl, rfl, zr6⟩ := hp
  refine lv_if_eq (tgt := 28) hx hb dX9_shave_20 (by decide) (fun c9 => ?_) (fun c9 => ?_)
  · rw [if_pos c9] at h
    refine lv_aload_n hx hb dX9_shave_28 rfl (lv_at hl 1 rfl) ?_
    refine lv_dup hx hb dX9_shave_29 rfl ?_
    refine rGetN (k := 4) C hW (wB_lt hk (by have := hj; omega)) (tm_Bell hk hj) rfl inX0 (by decide) fl_X9_153 rfl dX9_shave_30 ?_
    refine lv_iload_n hx hb dX9_shave_33 rfl (lv_at hl 2 rfl) ?_
    refine lv_iadd hx hb dX9_shave_34 ?_
    refine rPutN (k := 4) C hW hS (wB_lt hk (by have := hj; omega)) (tm_Bell hk hj) rfl inX0 tyX0_ok nmX0 (by decide) fl_X9_153 rfl (by decide +kernel) (Nat.le_of_ble_eq_true rfl) (upd_Bell_drawn hk hj _) dX9_shave_35 (fun H locs hW hS => ?_)
    have hW : Wd g (up2 M7 k (59 + 8 * j) ((M7 k (59 + 8 * j)) + (x))) H := hW
    have h := letE h
    generalize up2 M7 k (59 + 8 * j) ((M7 k (59 + 8 * j)) + (x)) = M10 at hW h
    refine lv_aload_n hx hb dX9_shave_38 rfl (lv_at hl 1 rfl) ?_
    refine rGetN (k := 0) C hW (wB_lt hk (by have := hj; omega)) (tm_Bell hk hj) rfl inX0 (by decide) fl_X9_125 rfl dX9_shave_39 ?_
    refine lv_aload_n hx hb dX9_shave_42 rfl (lv_at hl 0 rfl) ?_
    refine rGet (k := 10) C hW (wB_lt (r := 0) hk (by decide)) (tm_Works0 hk) rfl inX9 (by decide) fl_X9_65 rfl dX9_shave_43 ?_
    refine lv_iload_n hx hb dX9_shave_46 rfl (lv_at hl 2 rfl) ?_
    obtain ⟨r11, M12, h13, h⟩ := bind2 h
    refine cBackV C.2.2.2.2.2.2.2.2 (runV (As := [rf g (wB k + 34), .int (x)]) (rest := []) C hW hS (c_X6_drawInto l g M10 (wB k + (37 + 2 * j)) k (54 + 8 * j) (wB k + 34) (60 + k) 0 x (MX_bell hk hj) (MX_ladle hk) _ _ h13) kV_X6_drawInto ml_X9_126 (MX_bell hk hj).lt (MX_bell hk hj).cel rfl rfl rfl hl.1 rfl (Nat.le_of_ble_eq_true rfl) ⟨Nat.le_of_ble_eq_true rfl, Nat.le_of_ble_eq_true rfl⟩ ⟨Nat.zero_le _, Nat.zero_le _⟩ dX9_shave_47) hS (fun v0 H locs hp hW hS => ?_)
    subst hp
    refine lv_aload_n hx hb dX9_shave_50 rfl (lv_at hl 0 rfl) ?_
    refine rGet (k := 4) C hW (wB_lt (r := 0) hk (by decide)) (tm_Works0 hk) rfl inX9 (by decide) fl_X9_30 rfl dX9_shave_51 ?_
    refine lv_aload_n hx hb dX9_shave_54 rfl (lv_at hl 0 rfl) ?_
    refine rGet (k := 10) C hW (wB_lt (r := 0) hk (by decide)) (tm_Works0 hk) rfl inX9 (by decide) fl_X9_65 rfl dX9_shave_55 ?_
    refine lv_iconst (v := 1) hx hb dX9_shave_58 (by decide) ?_
    obtain ⟨r14, M15, h16, h⟩ := bind2 h
    refine cBackV C.2.2.2.2.2.2.2.2 (runV (As := [rf g (wB k + 34), .int (1)]) (rest := []) C hW hS (c_X2_add l g M12 k (wB k + 34) (60 + k) 0 1 hk (MX_ladle hk) _ _ h16) kV_X2_add ml_X9_130 (wB_lt hk (by decide)) (tm_Heap hk) rfl rfl rfl hl.1 rfl (Nat.le_of_ble_eq_true rfl) ⟨Nat.le_of_ble_eq_true rfl, Nat.le_of_ble_eq_true rfl⟩ ⟨Nat.zero_le _, Nat.zero_le _⟩ dX9_shave_59) hS (fun v0 H locs hp hW hS => ?_)
    subst hp
    cases h
    exact rV C hr hlk dX9_shave_62 hW hS rfl
  · rw [if_neg c9] at h
    refine lv_aload_n hx hb dX9_shave_23 rfl (lv_at hl 1 rfl) ?_
    refine lv_iconst (v := 1) hx hb dX9_shave_24 (by decide) ?_
    refine rPutN (k := 5) C hW hS (wB_lt hk (by have := hj; omega)) (tm_Bell hk hj) rfl inX0 tyX0_ok nmX0 (by decide) fl_X9_156 rfl (by decide +kernel) (Nat.le_of_ble_eq_true rfl) (upd_Bell_state hk hj _) dX9_shave_25 (fun H locs hW hS => ?_)
    have hW : Wd g (up2 M7 k (60 + 8 * j) (1)) H := hW
    have h := letE h
    generalize up2 M7 k (60 + 8 * j) (1) = M17 at hW h
    refine lv_aload_n hx hb dX9_shave_28 rfl (lv_at hl 1 rfl) ?_
    refine lv_dup hx hb dX9_shave_29 rfl ?_
    refine rGetN (k := 4) C hW (wB_lt hk (by have := hj; omega)) (tm_Bell hk hj) rfl inX0 (by decide) fl_X9_153 rfl dX9_shave_30 ?_
    refine lv_iload_n hx hb dX9_shave_33 rfl (lv_at hl 2 rfl) ?_
    refine lv_iadd hx hb dX9_shave_34 ?_
    refine rPutN (k := 4) C hW hS (wB_lt hk (by have := hj; omega)) (tm_Bell hk hj) rfl inX0 tyX0_ok nmX0 (by decide) fl_X9_153 rfl (by decide +kernel) (Nat.le_of_ble_eq_true rfl) (upd_Bell_drawn hk hj _) dX9_shave_35 (fun H locs hW hS => ?_)
    have hW : Wd g (up2 M17 k (59 + 8 * j) ((M17 k (59 + 8 * j)) + (x))) H := hW
    have h := letE h
    generalize up2 M17 k (59 + 8 * j) ((M17 k (59 + 8 * j)) + (x)) = M18 at hW h
    refine lv_aload_n hx hb dX9_shave_38 rfl (lv_at hl 1 rfl) ?_
    refine rGetN (k := 0) C hW (wB_lt hk (by have := hj; omega)) (tm_Bell hk hj) rfl inX0 (by decide) fl_X9_125 rfl dX9_shave_39 ?_
    refine lv_aload_n hx hb dX9_shave_42 rfl (lv_at hl 0 rfl) ?_
    refine rGet (k := 10) C hW (wB_lt (r := 0) hk (by decide)) (tm_Works0 hk) rfl inX9 (by decide) fl_X9_65 rfl dX9_shave_43 ?_
    refine lv_iload_n hx hb dX9_shave_46 rfl (lv_at hl 2 rfl) ?_
    obtain ⟨r19, M20, h21, h⟩ := bind2 h
    refine cBackV C.2.2.2.2.2.2.2.2 (runV (As := [rf g (wB k + 34), .int (x)]) (rest := []) C hW hS (c_X6_drawInto l g M18 (wB k + (37 + 2 * j)) k (54 + 8 * j) (wB k + 34) (60 + k) 0 x (MX_bell hk hj) (MX_ladle hk) _ _ h21) kV_X6_drawInto ml_X9_126 (MX_bell hk hj).lt (MX_bell hk hj).cel rfl rfl rfl hl.1 rfl (Nat.le_of_ble_eq_true rfl) ⟨Nat.le_of_ble_eq_true rfl, Nat.le_of_ble_eq_true rfl⟩ ⟨Nat.zero_le _, Nat.zero_le _⟩ dX9_shave_47) hS (fun v0 H locs hp hW hS => ?_)
    subst hp
    refine lv_aload_n hx hb dX9_shave_50 rfl (lv_at hl 0 rfl) ?_
    refine rGet (k := 4) C hW (wB_lt (r := 0) hk (by decide)) (tm_Works0 hk) rfl inX9 (by decide) fl_X9_30 rfl dX9_shave_51 ?_
    refine lv_aload_n hx hb dX9_shave_54 rfl (lv_at hl 0 rfl) ?_
    refine rGet (k := 10) C hW (wB_lt (r := 0) hk (by decide)) (tm_Works0 hk) rfl inX9 (by decide) fl_X9_65 rfl dX9_shave_55 ?_
    refine lv_iconst (v := 1) hx hb dX9_shave_58 (by decide) ?_
    obtain ⟨r22, M23, h24, h⟩ := bind2 h
    refine cBackV C.2.2.2.2.2.2.2.2 (runV (As := [rf g (wB k + 34), .int (1)]) (rest := []) C hW hS (c_X2_add l g M20 k (wB k + 34) (60 + k) 0 1 hk (MX_ladle hk) _ _ h24) kV_X2_add ml_X9_130 (wB_lt hk (by decide)) (tm_Heap hk) rfl rfl rfl hl.1 rfl (Nat.le_of_ble_eq_true rfl) ⟨Nat.le_of_ble_eq_true rfl, Nat.le_of_ble_eq_true rfl⟩ ⟨Nat.zero_le _, Nat.zero_le _⟩ dX9_shave_59) hS (fun v0 H locs hp hW hS => ?_)
    subst hp
    cases h
    exact rV C hr hlk dX9_shave_62 hW hS rfl
def f_X9_breakUp (M : MM) (k : Nat) (j : Nat) : Option (Unit × MM) := (bnd2 (f_X2_add M k k (54 + 8 * j) 2) fun r1 M2 => (bnd2 (f_X6_empty M2 k (54 + 8 * j)) fun r4 M5 => (letB (up2 M5 k (60 + 8 * j) (3)) fun M7 => some ((), M7))))
set_option maxHeartbeats 4000000 in
set_option maxRecDepth 100000 in
theorem c_X9_breakUp (l : Launch) (g : GD) (M : MM) (k : Nat) (j : Nat) (hk : k < 5) (hj : j < 100) (r : Unit) (M2 : MM) (h : f_X9_breakUp M k j = some (r, M2)) : Met l yX9_breakUp (wm yX9_breakUp cX9_breakUp 2 none) (RM 2 43) (va_Pc [rf g (wB k), rf g (wB k + (36 + 2 * j))] (WDp g M)) (QV g (fun w0 => M2 = w0)) 0 0 (AA g) := by
  refine mkM (by decide +kernel) (Nat.le_of_ble_eq_true rfl) ?_
  intro p e s m below meth c C hr hlk hW hS ls hl
  have hl : lv_has ls 2 [(0, rf g (wB k)), (1, rf g (wB k + (36 + 2 * j)))] := hl
  have hx := C.1
  have hb := C.2.1
  have hts := C.2.2.2.2.1
  unfold f_X9_breakUp at h
  refine lv_aload_n hx hb dX9_breakUp_0 rfl (lv_at hl 0 rfl) ?_
  refine rGet (k := 4) C hW (wB_lt (r := 0) hk (by decide)) (tm_Works0 hk) rfl inX9 (by decide) fl_X9_30 rfl dX9_breakUp_1 ?_
  refine lv_aload_n hx hb dX9_breakUp_4 rfl (lv_at hl 1 rfl) ?_
  refine rGetN (k := 0) C hW (wB_lt hk (by have := hj; omega)) (tm_Bell hk hj) rfl inX0 (by decide) fl_X9_125 rfl dX9_breakUp_5 ?_
  refine lv_iconst (v := 2) hx hb dX9_breakUp_8 (by decide) ?_
  obtain ⟨r1, M2, h3, h⟩ := bind2 h
  refine cBackV C.2.2.2.2.2.2.2.2 (runV (As := [rf g (wB k + (37 + 2 * j)), .int (2)]) (rest := []) C hW hS (c_X2_add l g M k (wB k + (37 + 2 * j)) k (54 + 8 * j) 2 hk (MX_bell hk hj) _ _ h3) kV_X2_add ml_X9_130 (wB_lt hk (by decide)) (tm_Heap hk) rfl rfl rfl hl.1 rfl (Nat.le_of_ble_eq_true rfl) ⟨Nat.le_of_ble_eq_true rfl, Nat.le_of_ble_eq_true rfl⟩ ⟨Nat.zero_le _, Nat.zero_le _⟩ dX9_breakUp_9) hS (fun v0 H locs hp hW hS => ?_)
  subst hp
  refine lv_aload_n hx hb dX9_breakUp_12 rfl (lv_at hl 1 rfl) ?_
  refine rGetN (k := 0) C hW (wB_lt hk (by have := hj; omega)) (tm_Bell hk hj) rfl inX0 (by decide) fl_X9_125 rfl dX9_breakUp_13 ?_
  obtain ⟨r4, M5, h6, h⟩ := bind2 h
  refine cBackV C.2.2.2.2.2.2.2.2 (runV (As := []) (rest := []) C hW hS (c_X6_empty l g M2 (wB k + (37 + 2 * j)) k (54 + 8 * j) (MX_bell hk hj) _ _ h6) kV_X6_empty ml_X9_169 (MX_bell hk hj).lt (MX_bell hk hj).cel rfl rfl rfl hl.1 rfl (Nat.le_of_ble_eq_true rfl) ⟨Nat.le_of_ble_eq_true rfl, Nat.le_of_ble_eq_true rfl⟩ ⟨Nat.zero_le _, Nat.zero_le _⟩ dX9_breakUp_16) hS (fun v0 H locs hp hW hS => ?_)
  subst hp
  refine lv_aload_n hx hb dX9_breakUp_19 rfl (lv_at hl 1 rfl) ?_
  refine lv_iconst (v := 3) hx hb dX9_breakUp_20 (by decide) ?_
  refine rPutN (k := 5) C hW hS (wB_lt hk (by have := hj; omega)) (tm_Bell hk hj) rfl inX0 tyX0_ok nmX0 (by decide) fl_X9_156 rfl (by decide +kernel) (Nat.le_of_ble_eq_true rfl) (upd_Bell_state hk hj _) dX9_breakUp_21 (fun H locs hW hS => ?_)
  have hW : Wd g (up2 M5 k (60 + 8 * j) (3)) H := hW
  have h := letE h
  generalize up2 M5 k (60 + 8 * j) (3) = M7 at hW h
  cases h
  exact rV C hr hlk dX9_breakUp_24 hW hS rfl
def f_X9_takeOrder (M : MM) (k : Nat) (x : Int32) (y : Int32) (u : Int32) : Option (Int32 × MM) := (if vin (M k 53) 100 then (letB (up2 M k (854 + 4 * (M k 53 : Int32).toNatClampNeg) (x)) fun M2 => (letB (up2 M2 k (855 + 4 * (M k 53 : Int32).toNatClampNeg) (y)) fun M3 => (letB (up2 M3 k (856 + 4 * (M k 53 : Int32).toNatClampNeg) (u)) fun M4 => (letB (up2 M4 k (857 + 4 * (M k 53 : Int32).toNatClampNeg) (0)) fun M5 => (letB (up2 M5 k 53 ((M5 k 53) + (1))) fun M6 => some ((M6 k 53) - (1), M6)))))) else none)
set_option maxHeartbeats 4000000 in
set_option maxRecDepth 100000 in
theorem c_X9_takeOrder (l : Launch) (g : GD) (M : MM) (k : Nat) (x : Int32) (y : Int32) (u : Int32) (hk : k < 5) (r : Int32) (M2 : MM) (h : f_X9_takeOrder M k x y u = some (r, M2)) : Met l yX9_takeOrder (wm yX9_takeOrder cX9_takeOrder 5 (some .int)) (RM 0 0) (va_Pc [rf g (wB k), .int (x), .int (y), .int (u)] (WDp g M)) (QQ g (fun v w0 => v = .int r ∧ M2 = w0)) 0 0 (AA g) := by
  refine mkM (by decide +kernel) (Nat.le_of_ble_eq_true rfl) ?_
  intro p e s m below meth c C hr hlk hW hS ls hl
  have hl : lv_has ls 5 [(0, rf g (wB k)), (1, .int (x)), (2, .int (y)), (3, .int (u))] := hl
  have hx := C.1
  have hb := C.2.1
  have hts := C.2.2.2.2.1
  unfold f_X9_takeOrder at h
  refine lv_aload_n hx hb dX9_takeOrder_0 rfl (lv_at hl 0 rfl) ?_
  refine rGet (k := 7) C hW (wB_lt (r := 0) hk (by decide)) (tm_Works0 hk) rfl inX9 (by decide) fl_X9_54 rfl dX9_takeOrder_1 ?_
  refine lv_aload_n hx hb dX9_takeOrder_4 rfl (lv_at hl 0 rfl) ?_
  refine rGet (k := 9) C hW (wB_lt (r := 0) hk (by decide)) (tm_Works0 hk) rfl inX9 (by decide) fl_X9_62 rfl dX9_takeOrder_5 ?_
  have s1 : vin (M k 53) 100 := Classical.byContradiction fun q9 => by rw [if_neg q9] at h; cases h
  rw [if_pos s1] at h
  refine rRld (j := 5) C hW (wB_lt hk (by decide)) (tm_orders hk) rfl s1 dX9_takeOrder_8 ?_
  refine lv_astore (lv' := [(4, rf g (wB k + (236 + (M k 53 : Int32).toNatClampNeg))), (0, rf g (wB k)), (1, .int (x)), (2, .int (y)), (3, .int (u))]) hx hb dX9_takeOrder_9 hl (by decide) rfl (fun ls hl => ?_)
  refine lv_aload hx hb dX9_takeOrder_11 (lv_at hl 0 rfl) ?_
  refine lv_iload_n hx hb dX9_takeOrder_13 rfl (lv_at hl 2 rfl) ?_
  refine rPutN (k := 0) C hW hS (wB_lt hk (by have := (vp_lt s1); omega)) (tm_Order hk (vp_lt s1)) rfl inX7 tyX7_ok nmX7 (by decide) fl_X9_172 rfl (by decide +kernel) (Nat.le_of_ble_eq_true rfl) (upd_Order_profile hk (vp_lt s1) _) dX9_takeOrder_14 (fun H locs hW hS => ?_)
  have hW : Wd g (up2 M k (854 + 4 * (M k 53 : Int32).toNatClampNeg) (x)) H := hW
  have h := letE h
  generalize up2 M k (854 + 4 * (M k 53 : Int32).toNatClampNeg) (x) = M2 at hW h
  refine lv_aload hx hb dX9_takeOrder_17 (lv_at hl 0 rfl) ?_
  refine lv_iload_n hx hb dX9_takeOrder_19 rfl (lv_at hl 3 rfl) ?_
  refine rPutN (k := 1) C hW hS (wB_lt hk (by have := (vp_lt s1); omega)) (tm_Order hk (vp_lt s1)) rfl inX7 tyX7_ok nmX7 (by decide) fl_X9_173 rfl (by decide +kernel) (Nat.le_of_ble_eq_true rfl) (upd_Order_pitch hk (vp_lt s1) _) dX9_takeOrder_20 (fun H locs hW hS => ?_)
  have hW : Wd g (up2 M2 k (855 + 4 * (M k 53 : Int32).toNatClampNeg) (y)) H := hW
  have h := letE h
  generalize up2 M2 k (855 + 4 * (M k 53 : Int32).toNatClampNeg) (y) = M3 at hW h
  refine lv_aload hx hb dX9_takeOrder_23 (lv_at hl 0 rfl) ?_
  refine lv_iload_n hx hb dX9_takeOrder_25 rfl (lv_at hl 4 rfl) ?_
  refine rPutN (k := 2) C hW hS (wB_lt hk (by have := (vp_lt s1); omega)) (tm_Order hk (vp_lt s1)) rfl inX7 tyX7_ok nmX7 (by decide) fl_X9_174 rfl (by decide +kernel) (Nat.le_of_ble_eq_true rfl) (upd_Order_tolerance hk (vp_lt s1) _) dX9_takeOrder_26 (fun H locs hW hS => ?_)
  have hW : Wd g (up2 M3 k (856 + 4 * (M k 53 : Int32).toNatClampNeg) (u)) H := hW
  have h := letE h
  generalize up2 M3 k (856 + 4 * (M k 53 : Int32).toNatClampNeg) (u) = M4 at hW h
  refine lv_aload hx hb dX9_takeOrder_29 (lv_at hl 0 rfl) ?_
  refine lv_iconst (v := 0) hx hb dX9_takeOrder_31 (by decide) ?_
  refine rPutN (k := 3) C hW hS (wB_lt hk (by have := (vp_lt s1); omega)) (tm_Order hk (vp_lt s1)) rfl inX7 tyX7_ok nmX7 (by decide) fl_X9_177 rfl (by decide +kernel) (Nat.le_of_ble_eq_true rfl) (upd_Order_state hk (vp_lt s1) _) dX9_takeOrder_32 (fun H locs hW hS => ?_)
  have hW : Wd g (up2 M4 k (857 + 4 * (M k 53 : Int32).toNatClampNeg) (0)) H := hW
  have h := letE h
  generalize up2 M4 k (857 + 4 * (M k 53 : Int32).toNatClampNeg) (0) = M5 at hW h
  refine lv_aload_n hx hb dX9_takeOrder_35 rfl (lv_at hl 1 rfl) ?_
  refine lv_dup hx hb dX9_takeOrder_36 rfl ?_
  refine rGet (k := 9) C hW (wB_lt (r := 0) hk (by decide)) (tm_Works0 hk) rfl inX9 (by decide) fl_X9_62 rfl dX9_takeOrder_37 ?_
  refine lv_iconst (v := 1) hx hb dX9_takeOrder_40 (by decide) ?_
  refine lv_iadd hx hb dX9_takeOrder_41 ?_
  refine rPut (k := 9) C hW hS (wB_lt (r := 0) hk (by decide)) (tm_Works0 hk) rfl inX9 tyX9_ok nmX9 (by decide) fl_X9_62 rfl (by decide +kernel) (Nat.le_of_ble_eq_true rfl) (upd_Works_came hk _) dX9_takeOrder_42 (fun H locs hW hS => ?_)
  have hW : Wd g (up2 M5 k 53 ((M5 k 53) + (1))) H := hW
  have h := letE h
  generalize up2 M5 k 53 ((M5 k 53) + (1)) = M6 at hW h
  refine lv_aload_n hx hb dX9_takeOrder_45 rfl (lv_at hl 1 rfl) ?_
  refine rGet (k := 9) C hW (wB_lt (r := 0) hk (by decide)) (tm_Works0 hk) rfl inX9 (by decide) fl_X9_62 rfl dX9_takeOrder_46 ?_
  refine lv_iconst (v := 1) hx hb dX9_takeOrder_49 (by decide) ?_
  refine lv_isub hx hb dX9_takeOrder_50 ?_
  cases h
  exact rI C hr hlk dX9_takeOrder_51 hW hS ⟨rfl, rfl⟩
def lp_X9_bellsIn_4 (fu : Nat) (M : MM) (k : Nat) (x : Int32) (u : Int32) (z : Int32) : Option (Int32 × MM) := match fu with
  | 0 => none
  | n + 1 => (if (M k 52 : Int32) ≤ (z : Int32) then some (u, M) else (if vin (z) 100 then (if (M k (60 + 8 * (z : Int32).toNatClampNeg) : Int32) = (x : Int32) then (lp_X9_bellsIn_4 n M k  x (u + 1) (z + 1)) else (lp_X9_bellsIn_4 n M k  x u (z + 1))) else none))
def f_X9_bellsIn (M : MM) (k : Nat) (x : Int32) : Option (Int32 × MM) := (lp_X9_bellsIn_4 FU M k  x 0 0)
set_option maxHeartbeats 4000000 in
set_option maxRecDepth 100000 in
theorem t_X9_bellsIn_4 (l : Launch) (g : GD) {p : Program} {e : Env} {s : State} {m : MethodId} {av : Array Value} {below : List Frame} {meth : Method} {c : Code} (k : Nat) (hk : k < 5) (n : Nat) : ∀ (M : MM) (x : Int32) (u : Int32) (z : Int32) (r : Int32) (M2 : MM), lp_X9_bellsIn_4 n M k  x u z = some (r, M2) → CX p s m av c cX9_bellsIn 4 RX9 g → meth.sig.returnType = (some .int) → meth.locks = false → ∀ (H : Heap) (locs : List Loc), Wd g M H → sS g s H locs → ∀ ls : Array Slot, lv_has ls 4 [(0, rf g (wB k)), (1, .int (x)), (2, .int (u)), (3, .int (z))] → W p l e (RM 0 0) s m av below meth c H locs 0 0 (MQ below (QQ g (fun v w0 => v = .int r ∧ M2 = w0)) av s 0 0 (AA g)) (F0 m 4 ls []) := by
  induction n with
  | zero => intro M x u z r M2 h; cases h
  | succ n ih0 =>
    intro M x u z r M2 h C hr hlk H locs hW hS ls hl
    have ih : ∀ (M : MM) (x : Int32) (u : Int32) (z : Int32), lp_X9_bellsIn_4 n M k  x u z = some (r, M2) → ∀ (H : Heap) (locs : List Loc), Wd g M H → sS g s H locs → ∀ ls : Array Slot, lv_has ls 4 [(0, rf g (wB k)), (1, .int (x)), (2, .int (u)), (3, .int (z))] → W p l e (RM 0 0) s m av below meth c H locs 0 0 (MQ below (QQ g (fun v w0 => v = .int r ∧ M2 = w0)) av s 0 0 (AA g)) (F0 m 4 ls []) := fun M x u z h H locs hW hS ls hl => ih0 M x u z r M2 h C hr hlk H locs hW hS ls hl
    unfold lp_X9_bellsIn_4 at h
    try dsimp only at h
    have hx := C.1
    have hb := C.2.1
    have hts := C.2.2.2.2.1
    refine lv_iload_n hx hb dX9_bellsIn_4 rfl (lv_at hl 3 rfl) ?_
    refine lv_aload_n hx hb dX9_bellsIn_5 rfl (lv_at hl 0 rfl) ?_
    refine rGet (k := 8) C hW (wB_lt (r := 0) hk (by decide)) (tm_Works0 hk) rfl inX9 (by decide) fl_X9_58 rfl dX9_bellsIn_6 ?_
    refine lv_icmp_ge (tgt := 34) hx hb dX9_bellsIn_9 (by decide) (fun c1001 => ?_) (fun c1001 => ?_)
    · rw [if_pos c1001] at h
      refine lv_iload_n hx hb dX9_bellsIn_34 rfl (lv_at hl 2 rfl) ?_
      cases h
      exact rI C hr hlk dX9_bellsIn_35 hW hS ⟨rfl, rfl⟩
    · rw [if_neg c1001] at h
      refine lv_aload_n hx hb dX9_bellsIn_12 rfl (lv_at hl 0 rfl) ?_
      refine rGet (k := 6) C hW (wB_lt (r := 0) hk (by decide)) (tm_Works0 hk) rfl inX9 (by decide) fl_X9_48 rfl dX9_bellsIn_13 ?_
      refine lv_iload_n hx hb dX9_bellsIn_16 rfl (lv_at hl 3 rfl) ?_
      have s1002 : vin (z) 100 := Classical.byContradiction fun q9 => by rw [if_neg q9] at h; cases h
      rw [if_pos s1002] at h
      refine rRld (j := 4) C hW (wB_lt hk (by decide)) (tm_bells hk) rfl s1002 dX9_bellsIn_17 ?_
      refine rGetN (k := 5) C hW (wB_lt hk (by have := (vp_lt s1002); omega)) (tm_Bell hk (vp_lt s1002)) rfl inX0 (by decide) fl_X9_156 rfl dX9_bellsIn_18 ?_
      refine lv_iload_n hx hb dX9_bellsIn_21 rfl (lv_at hl 1 rfl) ?_
      refine lv_icmp_ne (tgt := 28) hx hb dX9_bellsIn_22 (by decide) (fun c1003 => ?_) (fun c1003 => ?_)
      · rw [if_neg c1003] at h
        refine lv_iinc (v := z + 1) (lv' := [(3, .int (z + 1)), (0, rf g (wB k)), (1, .int (x)), (2, .int (u))]) hx hb dX9_bellsIn_28 hl (k := 3) rfl rfl (by decide) rfl (fun ls hl => ?_)
        refine lv_goto (tgt := 4) hx hb dX9_bellsIn_31 (by decide) ?_
        exact ih M x u (z + 1) h _ _ hW hS ls (lv_sub hl [1, 2, 3, 0] rfl)
      · rw [if_pos c1003] at h
        refine lv_iinc (v := u + 1) (lv' := [(2, .int (u + 1)), (0, rf g (wB k)), (1, .int (x)), (3, .int (z))]) hx hb dX9_bellsIn_25 hl (k := 2) rfl rfl (by decide) rfl (fun ls hl => ?_)
        refine lv_iinc (v := z + 1) (lv' := [(3, .int (z + 1)), (2, .int (u + 1)), (0, rf g (wB k)), (1, .int (x))]) hx hb dX9_bellsIn_28 hl (k := 3) rfl rfl (by decide) rfl (fun ls hl => ?_)
        refine lv_goto (tgt := 4) hx hb dX9_bellsIn_31 (by decide) ?_
        exact ih M x (u + 1) (z + 1) h _ _ hW hS ls (lv_sub hl [2, 3, 1, 0] rfl)
set_option maxHeartbeats 4000000 in
set_option maxRecDepth 100000 in
theorem c_X9_bellsIn (l : Launch) (g : GD) (M : MM) (k : Nat) (x : Int32) (hk : k < 5) (r : Int32) (M2 : MM) (h : f_X9_bellsIn M k x = some (r, M2)) : Met l yX9_bellsIn (wm yX9_bellsIn cX9_bellsIn 4 (some .int)) (RM 0 0) (va_Pc [rf g (wB k), .int (x)] (WDp g M)) (QQ g (fun v w0 => v = .int r ∧ M2 = w0)) 0 0 (AA g) := by
  refine mkM (by decide +kernel) (Nat.le_of_ble_eq_true rfl) ?_
  intro p e s m below meth c C hr hlk hW hS ls hl
  have hl : lv_has ls 4 [(0, rf g (wB k)), (1, .int (x))] := hl
  have hx := C.1
  have hb := C.2.1
  have hts := C.2.2.2.2.1
  unfold f_X9_bellsIn at h
  refine lv_iconst (v := 0) hx hb dX9_bellsIn_0 (by decide) ?_
  refine lv_istore_n (lv' := [(2, .int (0)), (0, rf g (wB k)), (1, .int (x))]) hx hb dX9_bellsIn_1 rfl hl (by decide) rfl (fun ls hl => ?_)
  refine lv_iconst (v := 0) hx hb dX9_bellsIn_2 (by decide) ?_
  refine lv_istore_n (lv' := [(3, .int (0)), (2, .int (0)), (0, rf g (wB k)), (1, .int (x))]) hx hb dX9_bellsIn_3 rfl hl (by decide) rfl (fun ls hl => ?_)
  exact t_X9_bellsIn_4 l g k hk   FU M x 0 0 _ _ h C hr hlk _ _ hW hS ls (lv_sub hl [2, 3, 1, 0] rfl)
def lp_X9_ordersIn_4 (fu : Nat) (M : MM) (k : Nat) (x : Int32) (u : Int32) (z : Int32) : Option (Int32 × MM) := match fu with
  | 0 => none
  | n + 1 => (if (M k 53 : Int32) ≤ (z : Int32) then some (u, M) else (if vin (z) 100 then (if (M k (857 + 4 * (z : Int32).toNatClampNeg) : Int32) = (x : Int32) then (lp_X9_ordersIn_4 n M k  x (u + 1) (z + 1)) else (lp_X9_ordersIn_4 n M k  x u (z + 1))) else none))
def f_X9_ordersIn (M : MM) (k : Nat) (x : Int32) : Option (Int32 × MM) := (lp_X9_ordersIn_4 FU M k  x 0 0)
set_option maxHeartbeats 4000000 in
set_option maxRecDepth 100000 in
theorem t_X9_ordersIn_4 (l : Launch) (g : GD) {p : Program} {e : Env} {s : State} {m : MethodId} {av : Array Value} {below : List Frame} {meth : Method} {c : Code} (k : Nat) (hk : k < 5) (n : Nat) : ∀ (M : MM) (x : Int32) (u : Int32) (z : Int32) (r : Int32) (M2 : MM), lp_X9_ordersIn_4 n M k  x u z = some (r, M2) → CX p s m av c cX9_ordersIn 4 RX9 g → meth.sig.returnType = (some .int) → meth.locks = false → ∀ (H : Heap) (locs : List Loc), Wd g M H → sS g s H locs → ∀ ls : Array Slot, lv_has ls 4 [(0, rf g (wB k)), (1, .int (x)), (2, .int (u)), (3, .int (z))] → W p l e (RM 0 0) s m av below meth c H locs 0 0 (MQ below (QQ g (fun v w0 => v = .int r ∧ M2 = w0)) av s 0 0 (AA g)) (F0 m 4 ls []) := by
  induction n with
  | zero => intro M x u z r M2 h; cases h
  | succ n ih0 =>
    intro M x u z r M2 h C hr hlk H locs hW hS ls hl
    have ih : ∀ (M : MM) (x : Int32) (u : Int32) (z : Int32), lp_X9_ordersIn_4 n M k  x u z = some (r, M2) → ∀ (H : Heap) (locs : List Loc), Wd g M H → sS g s H locs → ∀ ls : Array Slot, lv_has ls 4 [(0, rf g (wB k)), (1, .int (x)), (2, .int (u)), (3, .int (z))] → W p l e (RM 0 0) s m av below meth c H locs 0 0 (MQ below (QQ g (fun v w0 => v = .int r ∧ M2 = w0)) av s 0 0 (AA g)) (F0 m 4 ls []) := fun M x u z h H locs hW hS ls hl => ih0 M x u z r M2 h C hr hlk H locs hW hS ls hl
    unfold lp_X9_ordersIn_4 at h
    try dsimp only at h
    have hx := C.1
    have hb := C.2.1
    have hts := C.2.2.2.2.1
    refine lv_iload_n hx hb dX9_ordersIn_4 rfl (lv_at hl 3 rfl) ?_
    refine lv_aload_n hx hb dX9_ordersIn_5 rfl (lv_at hl 0 rfl) ?_
    refine rGet (k := 9) C hW (wB_lt (r := 0) hk (by decide)) (tm_Works0 hk) rfl inX9 (by decide) fl_X9_62 rfl dX9_ordersIn_6 ?_
    refine lv_icmp_ge (tgt := 34) hx hb dX9_ordersIn_9 (by decide) (fun c1001 => ?_) (fun c1001 => ?_)
    · rw [if_pos c1001] at h
      refine lv_iload_n hx hb dX9_ordersIn_34 rfl (lv_at hl 2 rfl) ?_
      cases h
      exact rI C hr hlk dX9_ordersIn_35 hW hS ⟨rfl, rfl⟩
    · rw [if_neg c1001] at h
      refine lv_aload_n hx hb dX9_ordersIn_12 rfl (lv_at hl 0 rfl) ?_
      refine rGet (k := 7) C hW (wB_lt (r := 0) hk (by decide)) (tm_Works0 hk) rfl inX9 (by decide) fl_X9_54 rfl dX9_ordersIn_13 ?_
      refine lv_iload_n hx hb dX9_ordersIn_16 rfl (lv_at hl 3 rfl) ?_
      have s1002 : vin (z) 100 := Classical.byContradiction fun q9 => by rw [if_neg q9] at h; cases h
      rw [if_pos s1002] at h
      refine rRld (j := 5) C hW (wB_lt hk (by decide)) (tm_orders hk) rfl s1002 dX9_ordersIn_17 ?_
      refine rGetN (k := 3) C hW (wB_lt hk (by have := (vp_lt s1002); omega)) (tm_Order hk (vp_lt s1002)) rfl inX7 (by decide) fl_X9_177 rfl dX9_ordersIn_18 ?_
      refine lv_iload_n hx hb dX9_ordersIn_21 rfl (lv_at hl 1 rfl) ?_
      refine lv_icmp_ne (tgt := 28) hx hb dX9_ordersIn_22 (by decide) (fun c1003 => ?_) (fun c1003 => ?_)
      · rw [if_neg c1003] at h
        refine lv_iinc (v := z + 1) (lv' := [(3, .int (z + 1)), (0, rf g (wB k)), (1, .int (x)), (2, .int (u))]) hx hb dX9_ordersIn_28 hl (k := 3) rfl rfl (by decide) rfl (fun ls hl => ?_)
        refine lv_goto (tgt := 4) hx hb dX9_ordersIn_31 (by decide) ?_
        exact ih M x u (z + 1) h _ _ hW hS ls (lv_sub hl [1, 2, 3, 0] rfl)
      · rw [if_pos c1003] at h
        refine lv_iinc (v := u + 1) (lv' := [(2, .int (u + 1)), (0, rf g (wB k)), (1, .int (x)), (3, .int (z))]) hx hb dX9_ordersIn_25 hl (k := 2) rfl rfl (by decide) rfl (fun ls hl => ?_)
        refine lv_iinc (v := z + 1) (lv' := [(3, .int (z + 1)), (2, .int (u + 1)), (0, rf g (wB k)), (1, .int (x))]) hx hb dX9_ordersIn_28 hl (k := 3) rfl rfl (by decide) rfl (fun ls hl => ?_)
        refine lv_goto (tgt := 4) hx hb dX9_ordersIn_31 (by decide) ?_
        exact ih M x (u + 1) (z + 1) h _ _ hW hS ls (lv_sub hl [2, 3, 1, 0] rfl)
set_option maxHeartbeats 4000000 in
set_option maxRecDepth 100000 in
theorem c_X9_ordersIn (l : Launch) (g : GD) (M : MM) (k : Nat) (x : Int32) (hk : k < 5) (r : Int32) (M2 : MM) (h : f_X9_ordersIn M k x = some (r, M2)) : Met l yX9_ordersIn (wm yX9_ordersIn cX9_ordersIn 4 (some .int)) (RM 0 0) (va_Pc [rf g (wB k), .int (x)] (WDp g M)) (QQ g (fun v w0 => v = .int r ∧ M2 = w0)) 0 0 (AA g) := by
  refine mkM (by decide +kernel) (Nat.le_of_ble_eq_true rfl) ?_
  intro p e s m below meth c C hr hlk hW hS ls hl
  have hl : lv_has ls 4 [(0, rf g (wB k)), (1, .int (x))] := hl
  have hx := C.1
  have hb := C.2.1
  have hts := C.2.2.2.2.1
  unfold f_X9_ordersIn at h
  refine lv_iconst (v := 0) hx hb dX9_ordersIn_0 (by decide) ?_
  refine lv_istore_n (lv' := [(2, .int (0)), (0, rf g (wB k)), (1, .int (x))]) hx hb dX9_ordersIn_1 rfl hl (by decide) rfl (fun ls hl => ?_)
  refine lv_iconst (v := 0) hx hb dX9_ordersIn_2 (by decide) ?_
  refine lv_istore_n (lv' := [(3, .int (0)), (2, .int (0)), (0, rf g (wB k)), (1, .int (x))]) hx hb dX9_ordersIn_3 rfl hl (by decide) rfl (fun ls hl => ?_)
  exact t_X9_ordersIn_4 l g k hk   FU M x 0 0 _ _ h C hr hlk _ _ hW hS ls (lv_sub hl [2, 3, 1, 0] rfl)
def f_X9_remainingBells (M : MM) (k : Nat) : Option (Int32 × MM) := (bnd2 (f_X9_bellsIn M k 0) fun r1 M2 => (bnd2 (f_X9_bellsIn M2 k 1) fun r4 M5 => some ((r1) + (r4), M5)))
set_option maxHeartbeats 4000000 in
set_option maxRecDepth 100000 in
theorem c_X9_remainingBells (l : Launch) (g : GD) (M : MM) (k : Nat) (hk : k < 5) (r : Int32) (M2 : MM) (h : f_X9_remainingBells M k = some (r, M2)) : Met l yX9_remainingBells (wm yX9_remainingBells cX9_remainingBells 1 (some .int)) (RM 1 23) (va_Pc [rf g (wB k)] (WDp g M)) (QQ g (fun v w0 => v = .int r ∧ M2 = w0)) 0 0 (AA g) := by
  refine mkM (by decide +kernel) (Nat.le_of_ble_eq_true rfl) ?_
  intro p e s m below meth c C hr hlk hW hS ls hl
  have hl : lv_has ls 1 [(0, rf g (wB k))] := hl
  have hx := C.1
  have hb := C.2.1
  have hts := C.2.2.2.2.1
  unfold f_X9_remainingBells at h
  refine lv_aload_n hx hb dX9_remainingBells_0 rfl (lv_at hl 0 rfl) ?_
  refine lv_iconst (v := 0) hx hb dX9_remainingBells_1 (by decide) ?_
  obtain ⟨r1, M2, h3, h⟩ := bind2 h
  refine cBack C.2.2.2.2.2.2.2.2 (runV (As := [.int (0)]) (rest := []) C hW hS (c_X9_bellsIn l g M k 0 hk _ _ h3) kV_X9_bellsIn ml_X9_178 (wB_lt (r := 0) hk (by decide)) (tm_Works0 hk) rfl rfl rfl hl.1 rfl (Nat.le_of_ble_eq_true rfl) ⟨Nat.le_of_ble_eq_true rfl, Nat.le_of_ble_eq_true rfl⟩ ⟨Nat.zero_le _, Nat.zero_le _⟩ dX9_remainingBells_2) hS (fun v0 w0 H locs hp hW hS => ?_)
  obtain ⟨rfl, rfl⟩ := hp
  refine lv_aload_n hx hb dX9_remainingBells_5 rfl (lv_at hl 0 rfl) ?_
  refine lv_iconst (v := 1) hx hb dX9_remainingBells_6 (by decide) ?_
  obtain ⟨r4, M5, h6, h⟩ := bind2 h
  refine cBack C.2.2.2.2.2.2.2.2 (runV (As := [.int (1)]) (rest := [.int (r1)]) C hW hS (c_X9_bellsIn l g M2 k 1 hk _ _ h6) kV_X9_bellsIn ml_X9_178 (wB_lt (r := 0) hk (by decide)) (tm_Works0 hk) rfl rfl rfl hl.1 rfl (Nat.le_of_ble_eq_true rfl) ⟨Nat.le_of_ble_eq_true rfl, Nat.le_of_ble_eq_true rfl⟩ ⟨Nat.zero_le _, Nat.zero_le _⟩ dX9_remainingBells_7) hS (fun v0 w0 H locs hp hW hS => ?_)
  obtain ⟨rfl, rfl⟩ := hp
  refine lv_iadd hx hb dX9_remainingBells_10 ?_
  cases h
  exact rI C hr hlk dX9_remainingBells_11 hW hS ⟨rfl, rfl⟩
def lp_X9_inBells_5 (fu : Nat) (M : MM) (k : Nat) (x : Int32) (y : Int32) (u : Int32) (z : Int32) : Option (Int32 × MM) := match fu with
  | 0 => none
  | n + 1 => (if (M k 52 : Int32) ≤ (z : Int32) then some (u, M) else (if vin (z) 100 then (if (M k (60 + 8 * (z : Int32).toNatClampNeg) : Int32) = (y : Int32) then (if vin (z) 100 then (bnd2 (f_X6_of M k (54 + 8 * (z : Int32).toNatClampNeg) x) fun r1005 M1006 => (lp_X9_inBells_5 n M1006 k  x y ((u) + (r1005)) (z + 1))) else none) else (lp_X9_inBells_5 n M k  x y u (z + 1))) else none))
def f_X9_inBells (M : MM) (k : Nat) (x : Int32) (y : Int32) : Option (Int32 × MM) := (lp_X9_inBells_5 FU M k  x y 0 0)
set_option maxHeartbeats 4000000 in
set_option maxRecDepth 100000 in
theorem t_X9_inBells_5 (l : Launch) (g : GD) {p : Program} {e : Env} {s : State} {m : MethodId} {av : Array Value} {below : List Frame} {meth : Method} {c : Code} (k : Nat) (hk : k < 5) (n : Nat) : ∀ (M : MM) (x : Int32) (y : Int32) (u : Int32) (z : Int32) (r : Int32) (M2 : MM), lp_X9_inBells_5 n M k  x y u z = some (r, M2) → CX p s m av c cX9_inBells 5 RX9 g → meth.sig.returnType = (some .int) → meth.locks = false → ∀ (H : Heap) (locs : List Loc), Wd g M H → sS g s H locs → ∀ ls : Array Slot, lv_has ls 5 [(0, rf g (wB k)), (1, .int (x)), (2, .int (y)), (3, .int (u)), (4, .int (z))] → W p l e (RM 1 21) s m av below meth c H locs 0 0 (MQ below (QQ g (fun v w0 => v = .int r ∧ M2 = w0)) av s 0 0 (AA g)) (F0 m 5 ls []) := by
  induction n with
  | zero => intro M x y u z r M2 h; cases h
  | succ n ih0 =>
    intro M x y u z r M2 h C hr hlk H locs hW hS ls hl
    have ih : ∀ (M : MM) (x : Int32) (y : Int32) (u : Int32) (z : Int32), lp_X9_inBells_5 n M k  x y u z = some (r, M2) → ∀ (H : Heap) (locs : List Loc), Wd g M H → sS g s H locs → ∀ ls : Array Slot, lv_has ls 5 [(0, rf g (wB k)), (1, .int (x)), (2, .int (y)), (3, .int (u)), (4, .int (z))] → W p l e (RM 1 21) s m av below meth c H locs 0 0 (MQ below (QQ g (fun v w0 => v = .int r ∧ M2 = w0)) av s 0 0 (AA g)) (F0 m 5 ls []) := fun M x y u z h H locs hW hS ls hl => ih0 M x y u z r M2 h C hr hlk H locs hW hS ls hl
    unfold lp_X9_inBells_5 at h
    try dsimp only at h
    have hx := C.1
    have hb := C.2.1
    have hts := C.2.2.2.2.1
    refine lv_iload hx hb dX9_inBells_5 (lv_at hl 4 rfl) ?_
    refine lv_aload_n hx hb dX9_inBells_7 rfl (lv_at hl 0 rfl) ?_
    refine rGet (k := 8) C hW (wB_lt (r := 0) hk (by decide)) (tm_Works0 hk) rfl inX9 (by decide) fl_X9_58 rfl dX9_inBells_8 ?_
    refine lv_icmp_ge (tgt := 51) hx hb dX9_inBells_11 (by decide) (fun c1001 => ?_) (fun c1001 => ?_)
    · rw [if_pos c1001] at h
      refine lv_iload_n hx hb dX9_inBells_51 rfl (lv_at hl 3 rfl) ?_
      cases h
      exact rI C hr hlk dX9_inBells_52 hW hS ⟨rfl, rfl⟩
    · rw [if_neg c1001] at h
      refine lv_aload_n hx hb dX9_inBells_14 rfl (lv_at hl 0 rfl) ?_
      refine rGet (k := 6) C hW (wB_lt (r := 0) hk (by decide)) (tm_Works0 hk) rfl inX9 (by decide) fl_X9_48 rfl dX9_inBells_15 ?_
      refine lv_iload hx hb dX9_inBells_18 (lv_at hl 4 rfl) ?_
      have s1002 : vin (z) 100 := Classical.byContradiction fun q9 => by rw [if_neg q9] at h; cases h
      rw [if_pos s1002] at h
      refine rRld (j := 4) C hW (wB_lt hk (by decide)) (tm_bells hk) rfl s1002 dX9_inBells_20 ?_
      refine rGetN (k := 5) C hW (wB_lt hk (by have := (vp_lt s1002); omega)) (tm_Bell hk (vp_lt s1002)) rfl inX0 (by decide) fl_X9_156 rfl dX9_inBells_21 ?_
      refine lv_iload_n hx hb dX9_inBells_24 rfl (lv_at hl 2 rfl) ?_
      refine lv_icmp_ne (tgt := 45) hx hb dX9_inBells_25 (by decide) (fun c1003 => ?_) (fun c1003 => ?_)
      · rw [if_neg c1003] at h
        refine lv_iinc (v := z + 1) (lv' := [(4, .int (z + 1)), (0, rf g (wB k)), (1, .int (x)), (2, .int (y)), (3, .int (u))]) hx hb dX9_inBells_45 hl (k := 4) rfl rfl (by decide) rfl (fun ls hl => ?_)
        refine lv_goto (tgt := 5) hx hb dX9_inBells_48 (by decide) ?_
        exact ih M x y u (z + 1) h _ _ hW hS ls (lv_sub hl [1, 2, 3, 4, 0] rfl)
      · rw [if_pos c1003] at h
        refine lv_iload_n hx hb dX9_inBells_28 rfl (lv_at hl 3 rfl) ?_
        refine lv_aload_n hx hb dX9_inBells_29 rfl (lv_at hl 0 rfl) ?_
        refine rGet (k := 6) C hW (wB_lt (r := 0) hk (by decide)) (tm_Works0 hk) rfl inX9 (by decide) fl_X9_48 rfl dX9_inBells_30 ?_
        refine lv_iload hx hb dX9_inBells_33 (lv_at hl 4 rfl) ?_
        have s1004 : vin (z) 100 := Classical.byContradiction fun q9 => by rw [if_neg q9] at h; cases h
        rw [if_pos s1004] at h
        refine rRld (j := 4) C hW (wB_lt hk (by decide)) (tm_bells hk) rfl s1004 dX9_inBells_35 ?_
        refine rGetN (k := 0) C hW (wB_lt hk (by have := (vp_lt s1004); omega)) (tm_Bell hk (vp_lt s1004)) rfl inX0 (by decide) fl_X9_125 rfl dX9_inBells_36 ?_
        refine lv_iload_n hx hb dX9_inBells_39 rfl (lv_at hl 1 rfl) ?_
        obtain ⟨r1005, M1006, h1007, h⟩ := bind2 h
        refine cBack C.2.2.2.2.2.2.2.2 (runV (As := [.int (x)]) (rest := [.int (u)]) C hW hS (c_X6_of l g M (wB k + (37 + 2 * (z : Int32).toNatClampNeg)) k (54 + 8 * (z : Int32).toNatClampNeg) x (MX_bell hk (vp_lt s1004)) _ _ h1007) kV_X6_of ml_X9_181 (MX_bell hk (vp_lt s1004)).lt (MX_bell hk (vp_lt s1004)).cel rfl rfl rfl hl.1 rfl (Nat.le_of_ble_eq_true rfl) ⟨Nat.le_of_ble_eq_true rfl, Nat.le_of_ble_eq_true rfl⟩ ⟨Nat.zero_le _, Nat.zero_le _⟩ dX9_inBells_40) hS (fun v0 w0 H locs hp hW hS => ?_)
        obtain ⟨rfl, rfl⟩ := hp
        refine lv_iadd hx hb dX9_inBells_43 ?_
        refine lv_istore_n (lv' := [(3, .int ((u) + (r1005))), (0, rf g (wB k)), (1, .int (x)), (2, .int (y)), (4, .int (z))]) hx hb dX9_inBells_44 rfl hl (by decide) rfl (fun ls hl => ?_)
        refine lv_iinc (v := z + 1) (lv' := [(4, .int (z + 1)), (3, .int ((u) + (r1005))), (0, rf g (wB k)), (1, .int (x)), (2, .int (y))]) hx hb dX9_inBells_45 hl (k := 4) rfl rfl (by decide) rfl (fun ls hl => ?_)
        refine lv_goto (tgt := 5) hx hb dX9_inBells_48 (by decide) ?_
        exact ih M1006 x y ((u) + (r1005)) (z + 1) h _ _ hW hS ls (lv_sub hl [2, 3, 4, 1, 0] rfl)
set_option maxHeartbeats 4000000 in
set_option maxRecDepth 100000 in
theorem c_X9_inBells (l : Launch) (g : GD) (M : MM) (k : Nat) (x : Int32) (y : Int32) (hk : k < 5) (r : Int32) (M2 : MM) (h : f_X9_inBells M k x y = some (r, M2)) : Met l yX9_inBells (wm yX9_inBells cX9_inBells 5 (some .int)) (RM 1 21) (va_Pc [rf g (wB k), .int (x), .int (y)] (WDp g M)) (QQ g (fun v w0 => v = .int r ∧ M2 = w0)) 0 0 (AA g) := by
  refine mkM (by decide +kernel) (Nat.le_of_ble_eq_true rfl) ?_
  intro p e s m below meth c C hr hlk hW hS ls hl
  have hl : lv_has ls 5 [(0, rf g (wB k)), (1, .int (x)), (2, .int (y))] := hl
  have hx := C.1
  have hb := C.2.1
  have hts := C.2.2.2.2.1
  unfold f_X9_inBells at h
  refine lv_iconst (v := 0) hx hb dX9_inBells_0 (by decide) ?_
  refine lv_istore_n (lv' := [(3, .int (0)), (0, rf g (wB k)), (1, .int (x)), (2, .int (y))]) hx hb dX9_inBells_1 rfl hl (by decide) rfl (fun ls hl => ?_)
  refine lv_iconst (v := 0) hx hb dX9_inBells_2 (by decide) ?_
  refine lv_istore (lv' := [(4, .int (0)), (3, .int (0)), (0, rf g (wB k)), (1, .int (x)), (2, .int (y))]) hx hb dX9_inBells_3 hl (by decide) rfl (fun ls hl => ?_)
  exact t_X9_inBells_5 l g k hk   FU M x y 0 0 _ _ h C hr hlk _ _ hW hS ls (lv_sub hl [2, 3, 4, 1, 0] rfl)
def lp_X9_lowestBellFor_2 (fu : Nat) (M : MM) (k : Nat) (w : Nat) (z : Int32) : Option (Int32 × MM) := match fu with
  | 0 => none
  | n + 1 => (if (M k 52 : Int32) ≤ (z : Int32) then some (-4, M) else (if vin (z) 100 then (bnd2 (f_X7_isFitBy M k w ((z : Int32).toNatClampNeg)) fun r1003 M1004 => (if (r1003 : Int32) = 0 then (lp_X9_lowestBellFor_2 n M1004 k w  (z + 1)) else some (z, M1004))) else none))
def f_X9_lowestBellFor (M : MM) (k : Nat) (w : Nat) : Option (Int32 × MM) := (lp_X9_lowestBellFor_2 FU M k w  0)
set_option maxHeartbeats 4000000 in
set_option maxRecDepth 100000 in
theorem t_X9_lowestBellFor_2 (l : Launch) (g : GD) {p : Program} {e : Env} {s : State} {m : MethodId} {av : Array Value} {below : List Frame} {meth : Method} {c : Code} (k : Nat) (w : Nat) (hk : k < 5) (hw : w < 100) (n : Nat) : ∀ (M : MM) (z : Int32) (r : Int32) (M2 : MM), lp_X9_lowestBellFor_2 n M k w  z = some (r, M2) → CX p s m av c cX9_lowestBellFor 3 RX9 g → meth.sig.returnType = (some .int) → meth.locks = false → ∀ (H : Heap) (locs : List Loc), Wd g M H → sS g s H locs → ∀ ls : Array Slot, lv_has ls 3 [(0, rf g (wB k)), (1, rf g (wB k + (236 + w))), (2, .int (z))] → W p l e (RM 3 82) s m av below meth c H locs 0 0 (MQ below (QQ g (fun v w0 => v = .int r ∧ M2 = w0)) av s 0 0 (AA g)) (F0 m 2 ls []) := by
  induction n with
  | zero => intro M z r M2 h; cases h
  | succ n ih0 =>
    intro M z r M2 h C hr hlk H locs hW hS ls hl
    have ih : ∀ (M : MM) (z : Int32), lp_X9_lowestBellFor_2 n M k w  z = some (r, M2) → ∀ (H : Heap) (locs : List Loc), Wd g M H → sS g s H locs → ∀ ls : Array Slot, lv_has ls 3 [(0, rf g (wB k)), (1, rf g (wB k + (236 + w))), (2, .int (z))] → W p l e (RM 3 82) s m av below meth c H locs 0 0 (MQ below (QQ g (fun v w0 => v = .int r ∧ M2 = w0)) av s 0 0 (AA g)) (F0 m 2 ls []) := fun M z h H locs hW hS ls hl => ih0 M z r M2 h C hr hlk H locs hW hS ls hl
    unfold lp_X9_lowestBellFor_2 at h
    try dsimp only at h
    have hx := C.1
    have hb := C.2.1
    have hts := C.2.2.2.2.1
    refine lv_iload_n hx hb dX9_lowestBellFor_2 rfl (lv_at hl 2 rfl) ?_
    refine lv_aload_n hx hb dX9_lowestBellFor_3 rfl (lv_at hl 0 rfl) ?_
    refine rGet (k := 8) C hW (wB_lt (r := 0) hk (by decide)) (tm_Works0 hk) rfl inX9 (by decide) fl_X9_58 rfl dX9_lowestBellFor_4 ?_
    refine lv_icmp_ge (tgt := 31) hx hb dX9_lowestBellFor_7 (by decide) (fun c1001 => ?_) (fun c1001 => ?_)
    · rw [if_pos c1001] at h
      refine lv_bipush (v := -4) hx hb dX9_lowestBellFor_31 (by decide) ?_
      cases h
      exact rI C hr hlk dX9_lowestBellFor_33 hW hS ⟨rfl, rfl⟩
    · rw [if_neg c1001] at h
      refine lv_aload_n hx hb dX9_lowestBellFor_10 rfl (lv_at hl 1 rfl) ?_
      refine lv_aload_n hx hb dX9_lowestBellFor_11 rfl (lv_at hl 0 rfl) ?_
      refine rGet (k := 6) C hW (wB_lt (r := 0) hk (by decide)) (tm_Works0 hk) rfl inX9 (by decide) fl_X9_48 rfl dX9_lowestBellFor_12 ?_
      refine lv_iload_n hx hb dX9_lowestBellFor_15 rfl (lv_at hl 2 rfl) ?_
      have s1002 : vin (z) 100 := Classical.byContradiction fun q9 => by rw [if_neg q9] at h; cases h
      rw [if_pos s1002] at h
      refine rRld (j := 4) C hW (wB_lt hk (by decide)) (tm_bells hk) rfl s1002 dX9_lowestBellFor_16 ?_
      obtain ⟨r1003, M1004, h1005, h⟩ := bind2 h
      refine cBack C.2.2.2.2.2.2.2.2 (runV (As := [rf g (wB k + (36 + 2 * (z : Int32).toNatClampNeg))]) (rest := []) C hW hS (c_X7_isFitBy l g M k w ((z : Int32).toNatClampNeg) hk hw (vp_lt s1002) _ _ h1005) kV_X7_isFitBy ml_X9_184 (wB_lt hk (by have := hw; omega)) (tm_Order hk hw) rfl rfl rfl hl.1 rfl (Nat.le_of_ble_eq_true rfl) ⟨Nat.le_of_ble_eq_true rfl, Nat.le_of_ble_eq_true rfl⟩ ⟨Nat.zero_le _, Nat.zero_le _⟩ dX9_lowestBellFor_17) hS (fun v0 w0 H locs hp hW hS => ?_)
      obtain ⟨rfl, rfl, zr1003⟩ := hp
      refine lv_if_eq (tgt := 25) hx hb dX9_lowestBellFor_20 (by decide) (fun c1006 => ?_) (fun c1006 => ?_)
      · rw [if_pos c1006] at h
        refine lv_iinc (v := z + 1) (lv' := [(2, .int (z + 1)), (0, rf g (wB k)), (1, rf g (wB k + (236 + w)))]) hx hb dX9_lowestBellFor_25 hl (k := 2) rfl rfl (by decide) rfl (fun ls hl => ?_)
        refine lv_goto (tgt := 2) hx hb dX9_lowestBellFor_28 (by decide) ?_
        exact ih M1004 (z + 1) h _ _ hW hS ls (lv_sub hl [1, 2, 0] rfl)
      · rw [if_neg c1006] at h
        refine lv_iload_n hx hb dX9_lowestBellFor_23 rfl (lv_at hl 2 rfl) ?_
        cases h
        exact rI C hr hlk dX9_lowestBellFor_24 hW hS ⟨rfl, rfl⟩
set_option maxHeartbeats 4000000 in
set_option maxRecDepth 100000 in
theorem c_X9_lowestBellFor (l : Launch) (g : GD) (M : MM) (k : Nat) (w : Nat) (hk : k < 5) (hw : w < 100) (r : Int32) (M2 : MM) (h : f_X9_lowestBellFor M k w = some (r, M2)) : Met l yX9_lowestBellFor (wm yX9_lowestBellFor cX9_lowestBellFor 3 (some .int)) (RM 3 82) (va_Pc [rf g (wB k), rf g (wB k + (236 + w))] (WDp g M)) (QQ g (fun v w0 => v = .int r ∧ M2 = w0)) 0 0 (AA g) := by
  refine mkM (by decide +kernel) (Nat.le_of_ble_eq_true rfl) ?_
  intro p e s m below meth c C hr hlk hW hS ls hl
  have hl : lv_has ls 3 [(0, rf g (wB k)), (1, rf g (wB k + (236 + w)))] := hl
  have hx := C.1
  have hb := C.2.1
  have hts := C.2.2.2.2.1
  unfold f_X9_lowestBellFor at h
  refine lv_iconst (v := 0) hx hb dX9_lowestBellFor_0 (by decide) ?_
  refine lv_istore_n (lv' := [(2, .int (0)), (0, rf g (wB k)), (1, rf g (wB k + (236 + w)))]) hx hb dX9_lowestBellFor_1 rfl hl (by decide) rfl (fun ls hl => ?_)
  exact t_X9_lowestBellFor_2 l g k w hk hw   FU M 0 _ _ h C hr hlk _ _ hW hS ls (lv_sub hl [1, 2, 0] rfl)
def lp_X9_bellsFor_4 (fu : Nat) (M : MM) (k : Nat) (w : Nat) (u : Int32) (z : Int32) : Option (Int32 × MM) := match fu with
  | 0 => none
  | n + 1 => (if (M k 52 : Int32) ≤ (z : Int32) then some (u, M) else (if vin (z) 100 then (bnd2 (f_X7_isFitBy M k w ((z : Int32).toNatClampNeg)) fun r1003 M1004 => (if (r1003 : Int32) = 0 then (lp_X9_bellsFor_4 n M1004 k w  u (z + 1)) else (lp_X9_bellsFor_4 n M1004 k w  (u + 1) (z + 1)))) else none))
def f_X9_bellsFor (M : MM) (k : Nat) (w : Nat) : Option (Int32 × MM) := (lp_X9_bellsFor_4 FU M k w  0 0)
set_option maxHeartbeats 4000000 in
set_option maxRecDepth 100000 in
theorem t_X9_bellsFor_4 (l : Launch) (g : GD) {p : Program} {e : Env} {s : State} {m : MethodId} {av : Array Value} {below : List Frame} {meth : Method} {c : Code} (k : Nat) (w : Nat) (hk : k < 5) (hw : w < 100) (n : Nat) : ∀ (M : MM) (u : Int32) (z : Int32) (r : Int32) (M2 : MM), lp_X9_bellsFor_4 n M k w  u z = some (r, M2) → CX p s m av c cX9_bellsFor 4 RX9 g → meth.sig.returnType = (some .int) → meth.locks = false → ∀ (H : Heap) (locs : List Loc), Wd g M H → sS g s H locs → ∀ ls : Array Slot, lv_has ls 4 [(0, rf g (wB k)), (1, rf g (wB k + (236 + w))), (2, .int (u)), (3, .int (z))] → W p l e (RM 3 82) s m av below meth c H locs 0 0 (MQ below (QQ g (fun v w0 => v = .int r ∧ M2 = w0)) av s 0 0 (AA g)) (F0 m 4 ls []) := by
  induction n with
  | zero => intro M u z r M2 h; cases h
  | succ n ih0 =>
    intro M u z r M2 h C hr hlk H locs hW hS ls hl
    have ih : ∀ (M : MM) (u : Int32) (z : Int32), lp_X9_bellsFor_4 n M k w  u z = some (r, M2) → ∀ (H : Heap) (locs : List Loc), Wd g M H → sS g s H locs → ∀ ls : Array Slot, lv_has ls 4 [(0, rf g (wB k)), (1, rf g (wB k + (236 + w))), (2, .int (u)), (3, .int (z))] → W p l e (RM 3 82) s m av below meth c H locs 0 0 (MQ below (QQ g (fun v w0 => v = .int r ∧ M2 = w0)) av s 0 0 (AA g)) (F0 m 4 ls []) := fun M u z h H locs hW hS ls hl => ih0 M u z r M2 h C hr hlk H locs hW hS ls hl
    unfold lp_X9_bellsFor_4 at h
    try dsimp only at h
    have hx := C.1
    have hb := C.2.1
    have hts := C.2.2.2.2.1
    refine lv_iload_n hx hb dX9_bellsFor_4 rfl (lv_at hl 3 rfl) ?_
    refine lv_aload_n hx hb dX9_bellsFor_5 rfl (lv_at hl 0 rfl) ?_
    refine rGet (k := 8) C hW (wB_lt (r := 0) hk (by decide)) (tm_Works0 hk) rfl inX9 (by decide) fl_X9_58 rfl dX9_bellsFor_6 ?_
    refine lv_icmp_ge (tgt := 34) hx hb dX9_bellsFor_9 (by decide) (fun c1001 => ?_) (fun c1001 => ?_)
    · rw [if_pos c1001] at h
      refine lv_iload_n hx hb dX9_bellsFor_34 rfl (lv_at hl 2 rfl) ?_
      cases h
      exact rI C hr hlk dX9_bellsFor_35 hW hS ⟨rfl, rfl⟩
    · rw [if_neg c1001] at h
      refine lv_aload_n hx hb dX9_bellsFor_12 rfl (lv_at hl 1 rfl) ?_
      refine lv_aload_n hx hb dX9_bellsFor_13 rfl (lv_at hl 0 rfl) ?_
      refine rGet (k := 6) C hW (wB_lt (r := 0) hk (by decide)) (tm_Works0 hk) rfl inX9 (by decide) fl_X9_48 rfl dX9_bellsFor_14 ?_
      refine lv_iload_n hx hb dX9_bellsFor_17 rfl (lv_at hl 3 rfl) ?_
      have s1002 : vin (z) 100 := Classical.byContradiction fun q9 => by rw [if_neg q9] at h; cases h
      rw [if_pos s1002] at h
      refine rRld (j := 4) C hW (wB_lt hk (by decide)) (tm_bells hk) rfl s1002 dX9_bellsFor_18 ?_
      obtain ⟨r1003, M1004, h1005, h⟩ := bind2 h
      refine cBack C.2.2.2.2.2.2.2.2 (runV (As := [rf g (wB k + (36 + 2 * (z : Int32).toNatClampNeg))]) (rest := []) C hW hS (c_X7_isFitBy l g M k w ((z : Int32).toNatClampNeg) hk hw (vp_lt s1002) _ _ h1005) kV_X7_isFitBy ml_X9_184 (wB_lt hk (by have := hw; omega)) (tm_Order hk hw) rfl rfl rfl hl.1 rfl (Nat.le_of_ble_eq_true rfl) ⟨Nat.le_of_ble_eq_true rfl, Nat.le_of_ble_eq_true rfl⟩ ⟨Nat.zero_le _, Nat.zero_le _⟩ dX9_bellsFor_19) hS (fun v0 w0 H locs hp hW hS => ?_)
      obtain ⟨rfl, rfl, zr1003⟩ := hp
      refine lv_if_eq (tgt := 28) hx hb dX9_bellsFor_22 (by decide) (fun c1006 => ?_) (fun c1006 => ?_)
      · rw [if_pos c1006] at h
        refine lv_iinc (v := z + 1) (lv' := [(3, .int (z + 1)), (0, rf g (wB k)), (1, rf g (wB k + (236 + w))), (2, .int (u))]) hx hb dX9_bellsFor_28 hl (k := 3) rfl rfl (by decide) rfl (fun ls hl => ?_)
        refine lv_goto (tgt := 4) hx hb dX9_bellsFor_31 (by decide) ?_
        exact ih M1004 u (z + 1) h _ _ hW hS ls (lv_sub hl [1, 2, 3, 0] rfl)
      · rw [if_neg c1006] at h
        refine lv_iinc (v := u + 1) (lv' := [(2, .int (u + 1)), (0, rf g (wB k)), (1, rf g (wB k + (236 + w))), (3, .int (z))]) hx hb dX9_bellsFor_25 hl (k := 2) rfl rfl (by decide) rfl (fun ls hl => ?_)
        refine lv_iinc (v := z + 1) (lv' := [(3, .int (z + 1)), (2, .int (u + 1)), (0, rf g (wB k)), (1, rf g (wB k + (236 + w)))]) hx hb dX9_bellsFor_28 hl (k := 3) rfl rfl (by decide) rfl (fun ls hl => ?_)
        refine lv_goto (tgt := 4) hx hb dX9_bellsFor_31 (by decide) ?_
        exact ih M1004 (u + 1) (z + 1) h _ _ hW hS ls (lv_sub hl [2, 3, 1, 0] rfl)
set_option maxHeartbeats 4000000 in
set_option maxRecDepth 100000 in
theorem c_X9_bellsFor (l : Launch) (g : GD) (M : MM) (k : Nat) (w : Nat) (hk : k < 5) (hw : w < 100) (r : Int32) (M2 : MM) (h : f_X9_bellsFor M k w = some (r, M2)) : Met l yX9_bellsFor (wm yX9_bellsFor cX9_bellsFor 4 (some .int)) (RM 3 82) (va_Pc [rf g (wB k), rf g (wB k + (236 + w))] (WDp g M)) (QQ g (fun v w0 => v = .int r ∧ M2 = w0)) 0 0 (AA g) := by
  refine mkM (by decide +kernel) (Nat.le_of_ble_eq_true rfl) ?_
  intro p e s m below meth c C hr hlk hW hS ls hl
  have hl : lv_has ls 4 [(0, rf g (wB k)), (1, rf g (wB k + (236 + w)))] := hl
  have hx := C.1
  have hb := C.2.1
  have hts := C.2.2.2.2.1
  unfold f_X9_bellsFor at h
  refine lv_iconst (v := 0) hx hb dX9_bellsFor_0 (by decide) ?_
  refine lv_istore_n (lv' := [(2, .int (0)), (0, rf g (wB k)), (1, rf g (wB k + (236 + w)))]) hx hb dX9_bellsFor_1 rfl hl (by decide) rfl (fun ls hl => ?_)
  refine lv_iconst (v := 0) hx hb dX9_bellsFor_2 (by decide) ?_
  refine lv_istore_n (lv' := [(3, .int (0)), (2, .int (0)), (0, rf g (wB k)), (1, rf g (wB k + (236 + w)))]) hx hb dX9_bellsFor_3 rfl hl (by decide) rfl (fun ls hl => ?_)
  exact t_X9_bellsFor_4 l g k w hk hw   FU M 0 0 _ _ h C hr hlk _ _ hW hS ls (lv_sub hl [2, 3, 1, 0] rfl)
def lp_X9_fewestPoundsToFit_33 (fu : Nat) (M : MM) (k : Nat) (j : Nat) (w : Nat) (u : Int32) (z : Int32) : Option (Int32 × MM) := match fu with
  | 0 => none
  | n + 1 => (if (u : Int32) < (z : Int32) then some (-4, M) else (bnd2 (f_X0_cracksBy M k j z) fun r1002 M1003 => (if (r1002 : Int32) = 0 then (if vin (5) 7 then (bnd2 (f_X0_pitchBehind M1003 k j z (M1003 (40 + k) (5 : Int32).toNatClampNeg)) fun r1007 M1008 => (bnd2 (f_X7_takesPitch M1008 k w r1007) fun r1010 M1011 => (if (r1010 : Int32) = 0 then (lp_X9_fewestPoundsToFit_33 n M1011 k j w  u (z + 1)) else some (z, M1011)))) else none) else some (-4, M1003))))
def f_X9_fewestPoundsToFit (M : MM) (k : Nat) (j : Nat) (w : Nat) : Option (Int32 × MM) := (if (M k (56 + 8 * j) : Int32) = (M k (854 + 4 * w) : Int32) then (bnd2 (f_X6_weight M k (54 + 8 * j)) fun r2 M3 => (lp_X9_fewestPoundsToFit_33 FU M3 k j w  (jmin (1000) ((r2) - (1))) 1)) else some (-4, M))
set_option maxHeartbeats 4000000 in
set_option maxRecDepth 100000 in
theorem t_X9_fewestPoundsToFit_33 (l : Launch) (g : GD) {p : Program} {e : Env} {s : State} {m : MethodId} {av : Array Value} {below : List Frame} {meth : Method} {c : Code} (k : Nat) (j : Nat) (w : Nat) (hk : k < 5) (hj : j < 100) (hw : w < 100) (n : Nat) : ∀ (M : MM) (u : Int32) (z : Int32) (r : Int32) (M2 : MM), lp_X9_fewestPoundsToFit_33 n M k j w  u z = some (r, M2) → CX p s m av c cX9_fewestPoundsToFit 5 RX9 g → meth.sig.returnType = (some .int) → meth.locks = false → ∀ (H : Heap) (locs : List Loc), Wd g M H → sS g s H locs → ∀ ls : Array Slot, lv_has ls 5 [(0, rf g (wB k)), (1, rf g (wB k + (36 + 2 * j))), (2, rf g (wB k + (236 + w))), (3, .int (u)), (4, .int (z))] → W p l e (RM 2 62) s m av below meth c H locs 0 0 (MQ below (QQ g (fun v w0 => v = .int r ∧ M2 = w0)) av s 0 0 (AA g)) (F0 m 33 ls []) := by
  induction n with
  | zero => intro M u z r M2 h; cases h
  | succ n ih0 =>
    intro M u z r M2 h C hr hlk H locs hW hS ls hl
    have ih : ∀ (M : MM) (u : Int32) (z : Int32), lp_X9_fewestPoundsToFit_33 n M k j w  u z = some (r, M2) → ∀ (H : Heap) (locs : List Loc), Wd g M H → sS g s H locs → ∀ ls : Array Slot, lv_has ls 5 [(0, rf g (wB k)), (1, rf g (wB k + (36 + 2 * j))), (2, rf g (wB k + (236 + w))), (3, .int (u)), (4, .int (z))] → W p l e (RM 2 62) s m av below meth c H locs 0 0 (MQ below (QQ g (fun v w0 => v = .int r ∧ M2 = w0)) av s 0 0 (AA g)) (F0 m 33 ls []) := fun M u z h H locs hW hS ls hl => ih0 M u z r M2 h C hr hlk H locs hW hS ls hl
    unfold lp_X9_fewestPoundsToFit_33 at h
    try dsimp only at h
    have hx := C.1
    have hb := C.2.1
    have hts := C.2.2.2.2.1
    refine lv_iload hx hb dX9_fewestPoundsToFit_33 (lv_at hl 4 rfl) ?_
    refine lv_iload_n hx hb dX9_fewestPoundsToFit_35 rfl (lv_at hl 3 rfl) ?_
    refine lv_icmp_gt (tgt := 76) hx hb dX9_fewestPoundsToFit_36 (by decide) (fun c1001 => ?_) (fun c1001 => ?_)
    · rw [if_pos c1001] at h
      refine lv_bipush (v := -4) hx hb dX9_fewestPoundsToFit_76 (by decide) ?_
      cases h
      exact rI C hr hlk dX9_fewestPoundsToFit_78 hW hS ⟨rfl, rfl⟩
    · rw [if_neg c1001] at h
      refine lv_aload_n hx hb dX9_fewestPoundsToFit_39 rfl (lv_at hl 1 rfl) ?_
      refine lv_iload hx hb dX9_fewestPoundsToFit_40 (lv_at hl 4 rfl) ?_
      obtain ⟨r1002, M1003, h1004, h⟩ := bind2 h
      refine cBack C.2.2.2.2.2.2.2.2 (runV (As := [.int (z)]) (rest := []) C hW hS (c_X0_cracksBy l g M k j z hk hj _ _ h1004) kV_X0_cracksBy ml_X9_165 (wB_lt hk (by have := hj; omega)) (tm_Bell hk hj) rfl rfl rfl hl.1 rfl (Nat.le_of_ble_eq_true rfl) ⟨Nat.le_of_ble_eq_true rfl, Nat.le_of_ble_eq_true rfl⟩ ⟨Nat.zero_le _, Nat.zero_le _⟩ dX9_fewestPoundsToFit_42) hS (fun v0 w0 H locs hp hW hS => ?_)
      obtain ⟨rfl, rfl, zr1002⟩ := hp
      refine lv_if_ne (tgt := 76) hx hb dX9_fewestPoundsToFit_45 (by decide) (fun c1005 => ?_) (fun c1005 => ?_)
      · rw [if_neg c1005] at h
        refine lv_bipush (v := -4) hx hb dX9_fewestPoundsToFit_76 (by decide) ?_
        cases h
        exact rI C hr hlk dX9_fewestPoundsToFit_78 hW hS ⟨rfl, rfl⟩
      · rw [if_pos c1005] at h
        refine lv_aload_n hx hb dX9_fewestPoundsToFit_48 rfl (lv_at hl 2 rfl) ?_
        refine lv_aload_n hx hb dX9_fewestPoundsToFit_49 rfl (lv_at hl 1 rfl) ?_
        refine lv_iload hx hb dX9_fewestPoundsToFit_50 (lv_at hl 4 rfl) ?_
        refine lv_aload_n hx hb dX9_fewestPoundsToFit_52 rfl (lv_at hl 0 rfl) ?_
        refine rGet (k := 5) C hW (wB_lt (r := 0) hk (by decide)) (tm_Works0 hk) rfl inX9 (by decide) fl_X9_43 rfl dX9_fewestPoundsToFit_53 ?_
        refine lv_iconst (v := 5) hx hb dX9_fewestPoundsToFit_56 (by decide) ?_
        have s1006 : vin (5) 7 := Classical.byContradiction fun q9 => by rw [if_neg q9] at h; cases h
        rw [if_pos s1006] at h
        refine rIld C hW (wB_lt hk (by decide)) (tm_settings hk) s1006 dX9_fewestPoundsToFit_57 ?_
        obtain ⟨r1007, M1008, h1009, h⟩ := bind2 h
        refine cBack C.2.2.2.2.2.2.2.2 (runV (As := [.int (z), .int (M1003 (40 + k) (5 : Int32).toNatClampNeg)]) (rest := [rf g (wB k + (236 + w))]) C hW hS (c_X0_pitchBehind l g M1003 k j z (M1003 (40 + k) (5 : Int32).toNatClampNeg) hk hj _ _ h1009) kV_X0_pitchBehind ml_X9_162 (wB_lt hk (by have := hj; omega)) (tm_Bell hk hj) rfl rfl rfl hl.1 rfl (Nat.le_of_ble_eq_true rfl) ⟨Nat.le_of_ble_eq_true rfl, Nat.le_of_ble_eq_true rfl⟩ ⟨Nat.zero_le _, Nat.zero_le _⟩ dX9_fewestPoundsToFit_58) hS (fun v0 w0 H locs hp hW hS => ?_)
        obtain ⟨rfl, rfl⟩ := hp
        obtain ⟨r1010, M1011, h1012, h⟩ := bind2 h
        refine cBack C.2.2.2.2.2.2.2.2 (runV (As := [.int (r1007)]) (rest := []) C hW hS (c_X7_takesPitch l g M1008 k w r1007 hk hw _ _ h1012) kV_X7_takesPitch ml_X9_196 (wB_lt hk (by have := hw; omega)) (tm_Order hk hw) rfl rfl rfl hl.1 rfl (Nat.le_of_ble_eq_true rfl) ⟨Nat.le_of_ble_eq_true rfl, Nat.le_of_ble_eq_true rfl⟩ ⟨Nat.zero_le _, Nat.zero_le _⟩ dX9_fewestPoundsToFit_61) hS (fun v0 w0 H locs hp hW hS => ?_)
        obtain ⟨rfl, rfl, zr1010⟩ := hp
        refine lv_if_eq (tgt := 70) hx hb dX9_fewestPoundsToFit_64 (by decide) (fun c1013 => ?_) (fun c1013 => ?_)
        · rw [if_pos c1013] at h
          refine lv_iinc (v := z + 1) (lv' := [(4, .int (z + 1)), (0, rf g (wB k)), (1, rf g (wB k + (36 + 2 * j))), (2, rf g (wB k + (236 + w))), (3, .int (u))]) hx hb dX9_fewestPoundsToFit_70 hl (k := 4) rfl rfl (by decide) rfl (fun ls hl => ?_)
          refine lv_goto (tgt := 33) hx hb dX9_fewestPoundsToFit_73 (by decide) ?_
          exact ih M1011 u (z + 1) h _ _ hW hS ls (lv_sub hl [1, 2, 3, 4, 0] rfl)
        · rw [if_neg c1013] at h
          refine lv_iload hx hb dX9_fewestPoundsToFit_67 (lv_at hl 4 rfl) ?_
          cases h
          exact rI C hr hlk dX9_fewestPoundsToFit_69 hW hS ⟨rfl, rfl⟩
set_option maxHeartbeats 4000000 in
set_option maxRecDepth 100000 in
theorem c_X9_fewestPoundsToFit (l : Launch) (g : GD) (M : MM) (k : Nat) (j : Nat) (w : Nat) (hk : k < 5) (hj : j < 100) (hw : w < 100) (r : Int32) (M2 : MM) (h : f_X9_fewestPoundsToFit M k j w = some (r, M2)) : Met l yX9_fewestPoundsToFit (wm yX9_fewestPoundsToFit cX9_fewestPoundsToFit 5 (some .int)) (RM 2 62) (va_Pc [rf g (wB k), rf g (wB k + (36 + 2 * j)), rf g (wB k + (236 + w))] (WDp g M)) (QQ g (fun v w0 => v = .int r ∧ M2 = w0)) 0 0 (AA g) := by
  refine mkM (by decide +kernel) (Nat.le_of_ble_eq_true rfl) ?_
  intro p e s m below meth c C hr hlk hW hS ls hl
  have hl : lv_has ls 5 [(0, rf g (wB k)), (1, rf g (wB k + (36 + 2 * j))), (2, rf g (wB k + (236 + w)))] := hl
  have hx := C.1
  have hb := C.2.1
  have hts := C.2.2.2.2.1
  unfold f_X9_fewestPoundsToFit at h
  refine lv_aload_n hx hb dX9_fewestPoundsToFit_0 rfl (lv_at hl 1 rfl) ?_
  refine rGetN (k := 1) C hW (wB_lt hk (by have := hj; omega)) (tm_Bell hk hj) rfl inX0 (by decide) fl_X9_137 rfl dX9_fewestPoundsToFit_1 ?_
  refine lv_aload_n hx hb dX9_fewestPoundsToFit_4 rfl (lv_at hl 2 rfl) ?_
  refine rGetN (k := 0) C hW (wB_lt hk (by have := hw; omega)) (tm_Order hk hw) rfl inX7 (by decide) fl_X9_172 rfl dX9_fewestPoundsToFit_5 ?_
  refine lv_icmp_eq (tgt := 14) hx hb dX9_fewestPoundsToFit_8 (by decide) (fun c1 => ?_) (fun c1 => ?_)
  · rw [if_pos c1] at h
    refine lv_sipush (v := 1000) hx hb dX9_fewestPoundsToFit_14 (by decide) ?_
    refine lv_aload_n hx hb dX9_fewestPoundsToFit_17 rfl (lv_at hl 1 rfl) ?_
    refine rGetN (k := 0) C hW (wB_lt hk (by have := hj; omega)) (tm_Bell hk hj) rfl inX0 (by decide) fl_X9_125 rfl dX9_fewestPoundsToFit_18 ?_
    obtain ⟨r2, M3, h4, h⟩ := bind2 h
    refine cBack C.2.2.2.2.2.2.2.2 (runV (As := []) (rest := [.int (1000)]) C hW hS (c_X6_weight l g M (wB k + (37 + 2 * j)) k (54 + 8 * j) (MX_bell hk hj) _ _ h4) kV_X6_weight ml_X9_188 (MX_bell hk hj).lt (MX_bell hk hj).cel rfl rfl rfl hl.1 rfl (Nat.le_of_ble_eq_true rfl) ⟨Nat.le_of_ble_eq_true rfl, Nat.le_of_ble_eq_true rfl⟩ ⟨Nat.zero_le _, Nat.zero_le _⟩ dX9_fewestPoundsToFit_21) hS (fun v0 w0 H locs hp hW hS => ?_)
    obtain ⟨rfl, rfl⟩ := hp
    refine lv_iconst (v := 1) hx hb dX9_fewestPoundsToFit_24 (by decide) ?_
    refine lv_isub hx hb dX9_fewestPoundsToFit_25 ?_
    refine va_mmin hx hb (C.2.2.1.trans hl.1.symm) C.2.2.2.1 (hts _ ml_X9_191) (hts _ st_min) (hts _ in_J9) (hts _ co_min) (Nat.le_of_ble_eq_true rfl) (Nat.le_of_ble_eq_true rfl) (Nat.zero_le _) (Nat.zero_le _) dX9_fewestPoundsToFit_26 ?_
    refine lv_istore_n (lv' := [(3, .int (jmin (1000) ((r2) - (1)))), (0, rf g (wB k)), (1, rf g (wB k + (36 + 2 * j))), (2, rf g (wB k + (236 + w)))]) hx hb dX9_fewestPoundsToFit_29 rfl hl (by decide) rfl (fun ls hl => ?_)
    refine lv_iconst (v := 1) hx hb dX9_fewestPoundsToFit_30 (by decide) ?_
    refine lv_istore (lv' := [(4, .int (1)), (3, .int (jmin (1000) ((r2) - (1)))), (0, rf g (wB k)), (1, rf g (wB k + (36 + 2 * j))), (2, rf g (wB k + (236 + w)))]) hx hb dX9_fewestPoundsToFit_31 hl (by decide) rfl (fun ls hl => ?_)
    exact t_X9_fewestPoundsToFit_33 l g k j w hk hj hw   FU M3 (jmin (1000) ((r2) - (1))) 1 _ _ h C hr hlk _ _ hW hS ls (lv_sub hl [2, 3, 4, 1, 0] rfl)
  · rw [if_neg c1] at h
    refine lv_bipush (v := -4) hx hb dX9_fewestPoundsToFit_11 (by decide) ?_
    cases h
    exact rI C hr hlk dX9_fewestPoundsToFit_13 hW hS ⟨rfl, rfl⟩
def lp_X9_heaviestBellFor_39 (fu : Nat) (M : MM) (k : Nat) (w : Nat) (x : Int32) (u : Int32) (z : Int32) : Option (Int32 × Int32 × Int32 × MM) := match fu with
  | 0 => none
  | n + 1 => (if (u : Int32) ≤ (1 : Int32) then some (x, u, z, M) else (bnd2 (f_X10_cube M (Int32.toInt64 (u))) fun r2002 M2003 => (if (lg_cmp (r2002) ((1000000) * (Int32.toInt64 (z))) : Int32) ≤ 0 then some (x, u, z, M2003) else (lp_X9_heaviestBellFor_39 n M2003 k w  x (u + (-1)) z))))
def lp_X9_heaviestBellFor_33 (fu : Nat) (M : MM) (k : Nat) (w : Nat) (x : Int32) (u : Int32) (z : Int32) : Option (Int32 × MM) := match fu with
  | 0 => none
  | n + 1 => (if (z : Int32) < (1 : Int32) then some (-4, M) else (bnd4 (lp_X9_heaviestBellFor_39 FU M k w  x u z) fun y1002 y1003 y1004 M1005 => (bnd2 (f_X9_weightWithSprue M1005 k y1004) fun r1007 M1008 => (if (y1002 : Int32) < (r1007 : Int32) then (lp_X9_heaviestBellFor_33 n M1008 k w  y1002 y1003 (y1004 + (-1))) else (bnd2 (f_X6_alloyOfDraw M1008 (65 + k) 0 y1004) fun r1011 M1012 => (bnd2 (f_X10_firstPitch M1012 (M1008 k (854 + 4 * w)) y1003 r1011) fun r1014 M1015 => (if (r1014 : Int32) < (M1015 k (855 + 4 * w) : Int32) then (lp_X9_heaviestBellFor_33 n M1015 k w  y1002 y1003 (y1004 + (-1))) else some (y1004, M1015))))))))
def f_X9_heaviestBellFor (M : MM) (k : Nat) (w : Nat) : Option (Int32 × MM) := (bnd2 (f_X9_burntMelt M k) fun r1 M2 => (bnd2 (f_X6_weight M2 (65 + k) 0) fun r4 M5 => (bnd2 (f_X10_heaviestAtPitch M5 (M5 k (854 + 4 * w)) (M5 k (855 + 4 * w))) fun r7 M8 => (bnd2 (f_X10_rootOf M8 (jmin (r4) (r7))) fun r10 M11 => (lp_X9_heaviestBellFor_33 FU M11 k w  r4 r10 (jmin (r4) (r7)))))))
set_option maxHeartbeats 4000000 in
set_option maxRecDepth 100000 in
theorem t_X9_heaviestBellFor_39 (l : Launch) (g : GD) {p : Program} {e : Env} {s : State} {m : MethodId} {av : Array Value} {below : List Frame} {meth : Method} {c : Code} {Q : State → Prop} (k : Nat) (w : Nat) (hk : k < 5) (hw : w < 100) (n : Nat) : ∀ (M : MM) (x : Int32) (u : Int32) (z : Int32) (o0 : Int32) (o1 : Int32) (o2 : Int32) (M2 : MM), lp_X9_heaviestBellFor_39 n M k w  x u z = some (o0, o1, o2, M2) → CX p s m av c cX9_heaviestBellFor 6 RX9 g → ∀ (H : Heap) (locs : List Loc), Wd g M H → sS g s H locs → ∀ ls : Array Slot, lv_has ls 6 [(0, rf g (wB k)), (1, rf g (wB k + (236 + w))), (2, .int (x)), (4, .int (u)), (5, .int (z))] → (∀ (H : Heap) (locs : List Loc), Wd g M2 H → sS g s H locs → ∀ ls : Array Slot, lv_has ls 6 [(0, rf g (wB k)), (1, rf g (wB k + (236 + w))), (2, .int (o0)), (4, .int (o1)), (5, .int (o2))] → W p l e (RM 3 64) s m av below meth c H locs 0 0 Q (F0 m 68 ls [])) → W p l e (RM 3 64) s m av below meth c H locs 0 0 Q (F0 m 39 ls []) := by
  induction n with
  | zero => intro M x u z o0 o1 o2 M2 h; cases h
  | succ n ih0 =>
    intro M x u z o0 o1 o2 M2 h C H locs hW hS ls hl kx
    have ih : ∀ (M : MM) (x : Int32) (u : Int32) (z : Int32), lp_X9_heaviestBellFor_39 n M k w  x u z = some (o0, o1, o2, M2) → ∀ (H : Heap) (locs : List Loc), Wd g M H → sS g s H locs → ∀ ls : Array Slot, lv_has ls 6 [(0, rf g (wB k)), (1, rf g (wB k + (236 + w))), (2, .int (x)), (4, .int (u)), (5, .int (z))] → (∀ (H : Heap) (locs : List Loc), Wd g M2 H → sS g s H locs → ∀ ls : Array Slot, lv_has ls 6 [(0, rf g (wB k)), (1, rf g (wB k + (236 + w))), (2, .int (o0)), (4, .int (o1)), (5, .int (o2))] → W p l e (RM 3 64) s m av below meth c H locs 0 0 Q (F0 m 68 ls [])) → W p l e (RM 3 64) s m av below meth c H locs 0 0 Q (F0 m 39 ls []) := fun M x u z h H locs hW hS ls hl kx => ih0 M x u z o0 o1 o2 M2 h C H locs hW hS ls hl kx
    unfold lp_X9_heaviestBellFor_39 at h
    try dsimp only at h
    have hx := C.1
    have hb := C.2.1
    have hts := C.2.2.2.2.1
    refine lv_iload hx hb dX9_heaviestBellFor_39 (lv_at hl 3 rfl) ?_
    refine lv_iconst (v := 1) hx hb dX9_heaviestBellFor_41 (by decide) ?_
    refine lv_icmp_le (tgt := 68) hx hb dX9_heaviestBellFor_42 (by decide) (fun c2001 => ?_) (fun c2001 => ?_)
    · rw [if_pos c2001] at h
      cases h
      exact kx _ _ hW hS ls (lv_sub hl [0, 1, 2, 3, 4] rfl)
    · rw [if_neg c2001] at h
      refine lv_iload hx hb dX9_heaviestBellFor_45 (lv_at hl 3 rfl) ?_
      refine lv_i2l hx hb dX9_heaviestBellFor_47 rfl ?_
      obtain ⟨r2002, M2003, h2004, h⟩ := bind2 h
      refine cBack C.2.2.2.2.2.2.2.2 (runSN (As := [.long (Int32.toInt64 (u))]) (rest := []) C hW hS (c_X10_cube l g M (Int32.toInt64 (u)) _ _ h2004) kS_X10_cube ml_X9_206 rfl hl.1 rfl (Nat.le_of_ble_eq_true rfl) ⟨Nat.le_of_ble_eq_true rfl, Nat.le_of_ble_eq_true rfl⟩ ⟨Nat.zero_le _, Nat.zero_le _⟩ dX9_heaviestBellFor_48) hS (fun v0 w0 H locs hp hW hS => ?_)
      obtain ⟨rfl, rfl⟩ := hp
      refine lv_ldc2 hx hb C.2.2.2.1 (C.2.2.2.2.1 _ kc_X9_210) dX9_heaviestBellFor_51 ?_
      refine lv_iload hx hb dX9_heaviestBellFor_54 (lv_at hl 4 rfl) ?_
      refine lv_i2l hx hb dX9_heaviestBellFor_56 rfl ?_
      refine lv_lmul hx hb dX9_heaviestBellFor_57 ?_
      refine W.lcmp hx hb dX9_heaviestBellFor_58 ?_
      refine lv_if_le (tgt := 68) hx hb dX9_heaviestBellFor_59 (by decide) (fun c2005 => ?_) (fun c2005 => ?_)
      · rw [if_pos c2005] at h
        cases h
        exact kx _ _ hW hS ls (lv_sub hl [0, 1, 2, 3, 4] rfl)
      · rw [if_neg c2005] at h
        refine lv_iinc (v := u + (-1)) (lv' := [(4, .int (u + (-1))), (0, rf g (wB k)), (1, rf g (wB k + (236 + w))), (2, .int (x)), (5, .int (z))]) hx hb dX9_heaviestBellFor_62 hl (k := 3) rfl rfl (by decide) rfl (fun ls hl => ?_)
        refine lv_goto (tgt := 39) hx hb dX9_heaviestBellFor_65 (by decide) ?_
        exact ih M2003 x (u + (-1)) z h _ _ hW hS ls (lv_sub hl [1, 2, 3, 0, 4] rfl) kx
set_option maxHeartbeats 4000000 in
set_option maxRecDepth 100000 in
theorem t_X9_heaviestBellFor_33 (l : Launch) (g : GD) {p : Program} {e : Env} {s : State} {m : MethodId} {av : Array Value} {below : List Frame} {meth : Method} {c : Code} (k : Nat) (w : Nat) (hk : k < 5) (hw : w < 100) (n : Nat) : ∀ (M : MM) (x : Int32) (u : Int32) (z : Int32) (r : Int32) (M2 : MM), lp_X9_heaviestBellFor_33 n M k w  x u z = some (r, M2) → CX p s m av c cX9_heaviestBellFor 6 RX9 g → meth.sig.returnType = (some .int) → meth.locks = false → ∀ (H : Heap) (locs : List Loc), Wd g M H → sS g s H locs → ∀ ls : Array Slot, lv_has ls 6 [(0, rf g (wB k)), (1, rf g (wB k + (236 + w))), (2, .int (x)), (4, .int (u)), (5, .int (z))] → W p l e (RM 3 64) s m av below meth c H locs 0 0 (MQ below (QQ g (fun v w0 => v = .int r ∧ M2 = w0)) av s 0 0 (AA g)) (F0 m 33 ls []) := by
  induction n with
  | zero => intro M x u z r M2 h; cases h
  | succ n ih0 =>
    intro M x u z r M2 h C hr hlk H locs hW hS ls hl
    have ih : ∀ (M : MM) (x : Int32) (u : Int32) (z : Int32), lp_X9_heaviestBellFor_33 n M k w  x u z = some (r, M2) → ∀ (H : Heap) (locs : List Loc), Wd g M H → sS g s H locs → ∀ ls : Array Slot, lv_has ls 6 [(0, rf g (wB k)), (1, rf g (wB k + (236 + w))), (2, .int (x)), (4, .int (u)), (5, .int (z))] → W p l e (RM 3 64) s m av below meth c H locs 0 0 (MQ below (QQ g (fun v w0 => v = .int r ∧ M2 = w0)) av s 0 0 (AA g)) (F0 m 33 ls []) := fun M x u z h H locs hW hS ls hl => ih0 M x u z r M2 h C hr hlk H locs hW hS ls hl
    unfold lp_X9_heaviestBellFor_33 at h
    try dsimp only at h
    have hx := C.1
    have hb := C.2.1
    have hts := C.2.2.2.2.1
    refine lv_iload hx hb dX9_heaviestBellFor_33 (lv_at hl 4 rfl) ?_
    refine lv_iconst (v := 1) hx hb dX9_heaviestBellFor_35 (by decide) ?_
    refine lv_icmp_lt (tgt := 112) hx hb dX9_heaviestBellFor_36 (by decide) (fun c1001 => ?_) (fun c1001 => ?_)
    · rw [if_pos c1001] at h
      refine lv_bipush (v := -4) hx hb dX9_heaviestBellFor_112 (by decide) ?_
      cases h
      exact rI C hr hlk dX9_heaviestBellFor_114 hW hS ⟨rfl, rfl⟩
    · rw [if_neg c1001] at h
      obtain ⟨y1002, y1003, y1004, M1005, h1006, h⟩ := bind4 h
      refine t_X9_heaviestBellFor_39 l g k w hk hw FU M x u z y1002 y1003 y1004 M1005 h1006 C _ _ hW hS ls (lv_sub hl [0, 1, 2, 3, 4] rfl) (fun H locs hW hS ls hl => ?_)
      refine lv_aload_n hx hb dX9_heaviestBellFor_68 rfl (lv_at hl 0 rfl) ?_
      refine lv_iload hx hb dX9_heaviestBellFor_69 (lv_at hl 4 rfl) ?_
      obtain ⟨r1007, M1008, h1009, h⟩ := bind2 h
      refine cBack C.2.2.2.2.2.2.2.2 (runV (As := [.int (y1004)]) (rest := []) C hW hS (c_X9_weightWithSprue l g M1005 k y1004 hk _ _ h1009) kV_X9_weightWithSprue ml_X9_212 (wB_lt (r := 0) hk (by decide)) (tm_Works0 hk) rfl rfl rfl hl.1 rfl (Nat.le_of_ble_eq_true rfl) ⟨Nat.le_of_ble_eq_true rfl, Nat.le_of_ble_eq_true rfl⟩ ⟨Nat.zero_le _, Nat.zero_le _⟩ dX9_heaviestBellFor_71) hS (fun v0 w0 H locs hp hW hS => ?_)
      obtain ⟨rfl, rfl⟩ := hp
      refine lv_iload_n hx hb dX9_heaviestBellFor_74 rfl (lv_at hl 2 rfl) ?_
      refine lv_icmp_gt (tgt := 106) hx hb dX9_heaviestBellFor_75 (by decide) (fun c1010 => ?_) (fun c1010 => ?_)
      · rw [if_pos c1010] at h
        refine lv_iinc (v := y1004 + (-1)) (lv' := [(5, .int (y1004 + (-1))), (0, rf g (wB k)), (1, rf g (wB k + (236 + w))), (2, .int (y1002)), (4, .int (y1003))]) hx hb dX9_heaviestBellFor_106 hl (k := 4) rfl rfl (by decide) rfl (fun ls hl => ?_)
        refine lv_goto (tgt := 33) hx hb dX9_heaviestBellFor_109 (by decide) ?_
        exact ih M1008 y1002 y1003 (y1004 + (-1)) h _ _ hW hS ls (lv_sub hl [1, 2, 3, 4, 0] rfl)
      · rw [if_neg c1010] at h
        refine lv_aload_n hx hb dX9_heaviestBellFor_78 rfl (lv_at hl 1 rfl) ?_
        refine rGetN (k := 0) C hW (wB_lt hk (by have := hw; omega)) (tm_Order hk hw) rfl inX7 (by decide) fl_X9_172 rfl dX9_heaviestBellFor_79 ?_
        refine lv_iload hx hb dX9_heaviestBellFor_82 (lv_at hl 3 rfl) ?_
        refine lv_aload_n hx hb dX9_heaviestBellFor_84 rfl (lv_at hl 0 rfl) ?_
        refine rGet (k := 11) C hW (wB_lt (r := 0) hk (by decide)) (tm_Works0 hk) rfl inX9 (by decide) fl_X9_68 rfl dX9_heaviestBellFor_85 ?_
        refine lv_iload hx hb dX9_heaviestBellFor_88 (lv_at hl 4 rfl) ?_
        obtain ⟨r1011, M1012, h1013, h⟩ := bind2 h
        refine cBack C.2.2.2.2.2.2.2.2 (runV (As := [.int (y1004)]) (rest := [.int (y1003), .int (M1008 k (854 + 4 * w))]) C hW hS (c_X6_alloyOfDraw l g M1008 (wB k + 35) (65 + k) 0 y1004 (MX_burnt hk) _ _ h1013) kV_X6_alloyOfDraw ml_X9_215 (MX_burnt hk).lt (MX_burnt hk).cel rfl rfl rfl hl.1 rfl (Nat.le_of_ble_eq_true rfl) ⟨Nat.le_of_ble_eq_true rfl, Nat.le_of_ble_eq_true rfl⟩ ⟨Nat.zero_le _, Nat.zero_le _⟩ dX9_heaviestBellFor_90) hS (fun v0 w0 H locs hp hW hS => ?_)
        obtain ⟨rfl, rfl⟩ := hp
        obtain ⟨r1014, M1015, h1016, h⟩ := bind2 h
        refine cBack C.2.2.2.2.2.2.2.2 (runSN (As := [.int (M1008 k (854 + 4 * w)), .int (y1003), .int (r1011)]) (rest := []) C hW hS (c_X10_firstPitch l g M1012 (M1008 k (854 + 4 * w)) y1003 r1011 _ _ h1016) kS_X10_firstPitch ml_X9_143 rfl hl.1 rfl (Nat.le_of_ble_eq_true rfl) ⟨Nat.le_of_ble_eq_true rfl, Nat.le_of_ble_eq_true rfl⟩ ⟨Nat.zero_le _, Nat.zero_le _⟩ dX9_heaviestBellFor_93) hS (fun v0 w0 H locs hp hW hS => ?_)
        obtain ⟨rfl, rfl⟩ := hp
        refine lv_aload_n hx hb dX9_heaviestBellFor_96 rfl (lv_at hl 1 rfl) ?_
        refine rGetN (k := 1) C hW (wB_lt hk (by have := hw; omega)) (tm_Order hk hw) rfl inX7 (by decide) fl_X9_173 rfl dX9_heaviestBellFor_97 ?_
        refine lv_icmp_lt (tgt := 106) hx hb dX9_heaviestBellFor_100 (by decide) (fun c1017 => ?_) (fun c1017 => ?_)
        · rw [if_pos c1017] at h
          refine lv_iinc (v := y1004 + (-1)) (lv' := [(5, .int (y1004 + (-1))), (0, rf g (wB k)), (1, rf g (wB k + (236 + w))), (2, .int (y1002)), (4, .int (y1003))]) hx hb dX9_heaviestBellFor_106 hl (k := 4) rfl rfl (by decide) rfl (fun ls hl => ?_)
          refine lv_goto (tgt := 33) hx hb dX9_heaviestBellFor_109 (by decide) ?_
          exact ih M1015 y1002 y1003 (y1004 + (-1)) h _ _ hW hS ls (lv_sub hl [1, 2, 3, 4, 0] rfl)
        · rw [if_neg c1017] at h
          refine lv_iload hx hb dX9_heaviestBellFor_103 (lv_at hl 4 rfl) ?_
          cases h
          exact rI C hr hlk dX9_heaviestBellFor_105 hW hS ⟨rfl, rfl⟩
set_option maxHeartbeats 4000000 in
set_option maxRecDepth 100000 in
theorem c_X9_heaviestBellFor (l : Launch) (g : GD) (M : MM) (k : Nat) (w : Nat) (hk : k < 5) (hw : w < 100) (r : Int32) (M2 : MM) (h : f_X9_heaviestBellFor M k w = some (r, M2)) : Met l yX9_heaviestBellFor (wm yX9_heaviestBellFor cX9_heaviestBellFor 6 (some .int)) (RM 3 64) (va_Pc [rf g (wB k), rf g (wB k + (236 + w))] (WDp g M)) (QQ g (fun v w0 => v = .int r ∧ M2 = w0)) 0 0 (AA g) := by
  refine mkM (by decide +kernel) (Nat.le_of_ble_eq_true rfl) ?_
  intro p e s m below meth c C hr hlk hW hS ls hl
  have hl : lv_has ls 6 [(0, rf g (wB k)), (1, rf g (wB k + (236 + w)))] := hl
  have hx := C.1
  have hb := C.2.1
  have hts := C.2.2.2.2.1
  unfold f_X9_heaviestBellFor at h
  refine lv_aload_n hx hb dX9_heaviestBellFor_0 rfl (lv_at hl 0 rfl) ?_
  obtain ⟨r1, M2, h3, h⟩ := bind2 h
  refine cBack C.2.2.2.2.2.2.2.2 (runV (As := []) (rest := []) C hW hS (c_X9_burntMelt l g M k hk _ _ h3) kV_X9_burntMelt ml_X9_199 (wB_lt (r := 0) hk (by decide)) (tm_Works0 hk) rfl rfl rfl hl.1 rfl (Nat.le_of_ble_eq_true rfl) ⟨Nat.le_of_ble_eq_true rfl, Nat.le_of_ble_eq_true rfl⟩ ⟨Nat.zero_le _, Nat.zero_le _⟩ dX9_heaviestBellFor_1) hS (fun v0 w0 H locs hp hW hS => ?_)
  obtain ⟨rfl, rfl⟩ := hp
  obtain ⟨r4, M5, h6, h⟩ := bind2 h
  refine cBack C.2.2.2.2.2.2.2.2 (runV (As := []) (rest := []) C hW hS (c_X6_weight l g M2 (wB k + 35) (65 + k) 0 (MX_burnt hk) _ _ h6) kV_X6_weight ml_X9_188 (MX_burnt hk).lt (MX_burnt hk).cel rfl rfl rfl hl.1 rfl (Nat.le_of_ble_eq_true rfl) ⟨Nat.le_of_ble_eq_true rfl, Nat.le_of_ble_eq_true rfl⟩ ⟨Nat.zero_le _, Nat.zero_le _⟩ dX9_heaviestBellFor_4) hS (fun v0 w0 H locs hp hW hS => ?_)
  obtain ⟨rfl, rfl⟩ := hp
  refine lv_istore_n (lv' := [(2, .int (r4)), (0, rf g (wB k)), (1, rf g (wB k + (236 + w)))]) hx hb dX9_heaviestBellFor_7 rfl hl (by decide) rfl (fun ls hl => ?_)
  refine lv_iload_n hx hb dX9_heaviestBellFor_8 rfl (lv_at hl 0 rfl) ?_
  refine lv_aload_n hx hb dX9_heaviestBellFor_9 rfl (lv_at hl 2 rfl) ?_
  refine rGetN (k := 0) C hW (wB_lt hk (by have := hw; omega)) (tm_Order hk hw) rfl inX7 (by decide) fl_X9_172 rfl dX9_heaviestBellFor_10 ?_
  refine lv_aload_n hx hb dX9_heaviestBellFor_13 rfl (lv_at hl 2 rfl) ?_
  refine rGetN (k := 1) C hW (wB_lt hk (by have := hw; omega)) (tm_Order hk hw) rfl inX7 (by decide) fl_X9_173 rfl dX9_heaviestBellFor_14 ?_
  obtain ⟨r7, M8, h9, h⟩ := bind2 h
  refine cBack C.2.2.2.2.2.2.2.2 (runSN (As := [.int (M5 k (854 + 4 * w)), .int (M5 k (855 + 4 * w))]) (rest := [.int (r4)]) C hW hS (c_X10_heaviestAtPitch l g M5 (M5 k (854 + 4 * w)) (M5 k (855 + 4 * w)) _ _ h9) kS_X10_heaviestAtPitch ml_X9_203 rfl hl.1 rfl (Nat.le_of_ble_eq_true rfl) ⟨Nat.le_of_ble_eq_true rfl, Nat.le_of_ble_eq_true rfl⟩ ⟨Nat.zero_le _, Nat.zero_le _⟩ dX9_heaviestBellFor_17) hS (fun v0 w0 H locs hp hW hS => ?_)
  obtain ⟨rfl, rfl⟩ := hp
  refine va_mmin hx hb (C.2.2.1.trans hl.1.symm) C.2.2.2.1 (hts _ ml_X9_191) (hts _ st_min) (hts _ in_J9) (hts _ co_min) (Nat.le_of_ble_eq_true rfl) (Nat.le_of_ble_eq_true rfl) (Nat.zero_le _) (Nat.zero_le _) dX9_heaviestBellFor_20 ?_
  refine lv_istore_n (lv' := [(3, .int (jmin (r4) (r7))), (2, .int (r4)), (0, rf g (wB k)), (1, rf g (wB k + (236 + w)))]) hx hb dX9_heaviestBellFor_23 rfl hl (by decide) rfl (fun ls hl => ?_)
  refine lv_iload_n hx hb dX9_heaviestBellFor_24 rfl (lv_at hl 0 rfl) ?_
  obtain ⟨r10, M11, h12, h⟩ := bind2 h
  refine cBack C.2.2.2.2.2.2.2.2 (runSN (As := [.int (jmin (r4) (r7))]) (rest := []) C hW hS (c_X10_rootOf l g M8 (jmin (r4) (r7)) _ _ h12) kS_X10_rootOf ml_X9_140 rfl hl.1 rfl (Nat.le_of_ble_eq_true rfl) ⟨Nat.le_of_ble_eq_true rfl, Nat.le_of_ble_eq_true rfl⟩ ⟨Nat.zero_le _, Nat.zero_le _⟩ dX9_heaviestBellFor_25) hS (fun v0 w0 H locs hp hW hS => ?_)
  obtain ⟨rfl, rfl⟩ := hp
  refine lv_istore (lv' := [(4, .int (r10)), (3, .int (jmin (r4) (r7))), (2, .int (r4)), (0, rf g (wB k)), (1, rf g (wB k + (236 + w)))]) hx hb dX9_heaviestBellFor_28 hl (by decide) rfl (fun ls hl => ?_)
  refine lv_iload_n hx hb dX9_heaviestBellFor_30 rfl (lv_at hl 1 rfl) ?_
  refine lv_istore (lv' := [(5, .int (jmin (r4) (r7))), (4, .int (r10)), (3, .int (jmin (r4) (r7))), (2, .int (r4)), (0, rf g (wB k)), (1, rf g (wB k + (236 + w)))]) hx hb dX9_heaviestBellFor_31 hl (by decide) rfl (fun ls hl => ?_)
  exact t_X9_heaviestBellFor_33 l g k w hk hw   FU M11 r4 r10 (jmin (r4) (r7)) _ _ h C hr hlk _ _ hW hS ls (lv_sub hl [4, 5, 3, 1, 0] rfl)
def lp_X9_copyFrom_122 (fu : Nat) (M : MM) (k : Nat) (k2 : Nat) (z : Int32) : Option (Unit × MM) := match fu with
  | 0 => none
  | n + 1 => (if (M k 53 : Int32) ≤ (z : Int32) then some ((), M) else (if vin (z) 100 then (if vin (z) 100 then (bnd2 (f_X7_copyFrom M k ((z : Int32).toNatClampNeg) k2 ((z : Int32).toNatClampNeg)) fun r2004 M2005 => (lp_X9_copyFrom_122 n M2005 k k2  (z + 1))) else none) else none))
def lp_X9_copyFrom_83 (fu : Nat) (M : MM) (k : Nat) (k2 : Nat) (z : Int32) : Option (Unit × MM) := match fu with
  | 0 => none
  | n + 1 => (if (M k 52 : Int32) ≤ (z : Int32) then (letB (up2 M k 53 (M k2 53)) fun M1002 => (lp_X9_copyFrom_122 FU M1002 k k2  0)) else (if vin (z) 100 then (if vin (z) 100 then (bnd2 (f_X0_copyFrom M k ((z : Int32).toNatClampNeg) k2 ((z : Int32).toNatClampNeg)) fun r1005 M1006 => (lp_X9_copyFrom_83 n M1006 k k2  (z + 1))) else none) else none))
def f_X9_copyFrom (M : MM) (k : Nat) (k2 : Nat) : Option (Unit × MM) := (bnd2 (f_X6_copyFrom M k 2 k2 2) fun r1 M2 => (bnd2 (f_X6_copyFrom M2 k 0 k2 0) fun r4 M5 => (bnd2 (f_X6_copyFrom M5 k 4 k2 4) fun r7 M8 => (bnd2 (f_X6_copyFrom M8 k 6 k2 6) fun r10 M11 => (bnd2 (f_X2_copyFrom M11 k k2) fun r13 M14 => (letB (cpyS M14 k2 k) fun M16 => (letB (up2 M16 k 52 (M16 k2 52)) fun M17 => (lp_X9_copyFrom_83 FU M17 k k2  0))))))))
set_option maxHeartbeats 4000000 in
set_option maxRecDepth 100000 in
theorem t_X9_copyFrom_122 (l : Launch) (g : GD) {p : Program} {e : Env} {s : State} {m : MethodId} {av : Array Value} {below : List Frame} {meth : Method} {c : Code} (k : Nat) (k2 : Nat) (hk : k < 5) (hk2 : k2 < 5) (n : Nat) : ∀ (M : MM) (z : Int32) (r : Unit) (M2 : MM), lp_X9_copyFrom_122 n M k k2  z = some (r, M2) → CX p s m av c cX9_copyFrom 3 RX9 g → meth.sig.returnType = none → meth.locks = false → ∀ (H : Heap) (locs : List Loc), Wd g M H → sS g s H locs → ∀ ls : Array Slot, lv_has ls 3 [(0, rf g (wB k)), (1, rf g (wB k2)), (2, .int (z))] → W p l e (RM 2 43) s m av below meth c H locs 0 0 (MQ below (QV g (fun w0 => M2 = w0)) av s 0 0 (AA g)) (F0 m 122 ls []) := by
  induction n with
  | zero => intro M z r M2 h; cases h
  | succ n ih0 =>
    intro M z r M2 h C hr hlk H locs hW hS ls hl
    have ih : ∀ (M : MM) (z : Int32), lp_X9_copyFrom_122 n M k k2  z = some (r, M2) → ∀ (H : Heap) (locs : List Loc), Wd g M H → sS g s H locs → ∀ ls : Array Slot, lv_has ls 3 [(0, rf g (wB k)), (1, rf g (wB k2)), (2, .int (z))] → W p l e (RM 2 43) s m av below meth c H locs 0 0 (MQ below (QV g (fun w0 => M2 = w0)) av s 0 0 (AA g)) (F0 m 122 ls []) := fun M z h H locs hW hS ls hl => ih0 M z r M2 h C hr hlk H locs hW hS ls hl
    unfold lp_X9_copyFrom_122 at h
    try dsimp only at h
    have hx := C.1
    have hb := C.2.1
    have hts := C.2.2.2.2.1
    refine lv_iload_n hx hb dX9_copyFrom_122 rfl (lv_at hl 2 rfl) ?_
    refine lv_aload_n hx hb dX9_copyFrom_123 rfl (lv_at hl 0 rfl) ?_
    refine rGet (k := 9) C hW (wB_lt (r := 0) hk (by decide)) (tm_Works0 hk) rfl inX9 (by decide) fl_X9_62 rfl dX9_copyFrom_124 ?_
    refine lv_icmp_ge (tgt := 151) hx hb dX9_copyFrom_127 (by decide) (fun c2001 => ?_) (fun c2001 => ?_)
    · rw [if_pos c2001] at h
      cases h
      exact rV C hr hlk dX9_copyFrom_151 hW hS rfl
    · rw [if_neg c2001] at h
      refine lv_aload_n hx hb dX9_copyFrom_130 rfl (lv_at hl 0 rfl) ?_
      refine rGet (k := 7) C hW (wB_lt (r := 0) hk (by decide)) (tm_Works0 hk) rfl inX9 (by decide) fl_X9_54 rfl dX9_copyFrom_131 ?_
      refine lv_iload_n hx hb dX9_copyFrom_134 rfl (lv_at hl 2 rfl) ?_
      have s2002 : vin (z) 100 := Classical.byContradiction fun q9 => by rw [if_neg q9] at h; cases h
      rw [if_pos s2002] at h
      refine rRld (j := 5) C hW (wB_lt hk (by decide)) (tm_orders hk) rfl s2002 dX9_copyFrom_135 ?_
      refine lv_aload_n hx hb dX9_copyFrom_136 rfl (lv_at hl 1 rfl) ?_
      refine rGet (k := 7) C hW (wB_lt (r := 0) hk2 (by decide)) (tm_Works0 hk2) rfl inX9 (by decide) fl_X9_54 rfl dX9_copyFrom_137 ?_
      refine lv_iload_n hx hb dX9_copyFrom_140 rfl (lv_at hl 2 rfl) ?_
      have s2003 : vin (z) 100 := Classical.byContradiction fun q9 => by rw [if_neg q9] at h; cases h
      rw [if_pos s2003] at h
      refine rRld (j := 5) C hW (wB_lt hk2 (by decide)) (tm_orders hk2) rfl s2003 dX9_copyFrom_141 ?_
      obtain ⟨r2004, M2005, h2006, h⟩ := bind2 h
      refine cBackV C.2.2.2.2.2.2.2.2 (runV (As := [rf g (wB k2 + (236 + (z : Int32).toNatClampNeg))]) (rest := []) C hW hS (c_X7_copyFrom l g M k ((z : Int32).toNatClampNeg) k2 ((z : Int32).toNatClampNeg) hk (vp_lt s2002) hk2 (vp_lt s2003) _ _ h2006) kV_X7_copyFrom ml_X9_89 (wB_lt hk (by have := (vp_lt s2002); omega)) (tm_Order hk (vp_lt s2002)) rfl rfl rfl hl.1 rfl (Nat.le_of_ble_eq_true rfl) ⟨Nat.le_of_ble_eq_true rfl, Nat.le_of_ble_eq_true rfl⟩ ⟨Nat.zero_le _, Nat.zero_le _⟩ dX9_copyFrom_142) hS (fun v0 H locs hp hW hS => ?_)
      subst hp
      refine lv_iinc (v := z + 1) (lv' := [(2, .int (z + 1)), (0, rf g (wB k)), (1, rf g (wB k2))]) hx hb dX9_copyFrom_145 hl (k := 2) rfl rfl (by decide) rfl (fun ls hl => ?_)
      refine lv_goto (tgt := 122) hx hb dX9_copyFrom_148 (by decide) ?_
      exact ih M2005 (z + 1) h _ _ hW hS ls (lv_sub hl [1, 2, 0] rfl)
set_option maxHeartbeats 4000000 in
set_option maxRecDepth 100000 in
theorem t_X9_copyFrom_83 (l : Launch) (g : GD) {p : Program} {e : Env} {s : State} {m : MethodId} {av : Array Value} {below : List Frame} {meth : Method} {c : Code} (k : Nat) (k2 : Nat) (hk : k < 5) (hk2 : k2 < 5) (n : Nat) : ∀ (M : MM) (z : Int32) (r : Unit) (M2 : MM), lp_X9_copyFrom_83 n M k k2  z = some (r, M2) → CX p s m av c cX9_copyFrom 3 RX9 g → meth.sig.returnType = none → meth.locks = false → ∀ (H : Heap) (locs : List Loc), Wd g M H → sS g s H locs → ∀ ls : Array Slot, lv_has ls 3 [(0, rf g (wB k)), (1, rf g (wB k2)), (2, .int (z))] → W p l e (RM 2 43) s m av below meth c H locs 0 0 (MQ below (QV g (fun w0 => M2 = w0)) av s 0 0 (AA g)) (F0 m 83 ls []) := by
  induction n with
  | zero => intro M z r M2 h; cases h
  | succ n ih0 =>
    intro M z r M2 h C hr hlk H locs hW hS ls hl
    have ih : ∀ (M : MM) (z : Int32), lp_X9_copyFrom_83 n M k k2  z = some (r, M2) → ∀ (H : Heap) (locs : List Loc), Wd g M H → sS g s H locs → ∀ ls : Array Slot, lv_has ls 3 [(0, rf g (wB k)), (1, rf g (wB k2)), (2, .int (z))] → W p l e (RM 2 43) s m av below meth c H locs 0 0 (MQ below (QV g (fun w0 => M2 = w0)) av s 0 0 (AA g)) (F0 m 83 ls []) := fun M z h H locs hW hS ls hl => ih0 M z r M2 h C hr hlk H locs hW hS ls hl
    unfold lp_X9_copyFrom_83 at h
    try dsimp only at h
    have hx := C.1
    have hb := C.2.1
    have hts := C.2.2.2.2.1
    refine lv_iload_n hx hb dX9_copyFrom_83 rfl (lv_at hl 2 rfl) ?_
    refine lv_aload_n hx hb dX9_copyFrom_84 rfl (lv_at hl 0 rfl) ?_
    refine rGet (k := 8) C hW (wB_lt (r := 0) hk (by decide)) (tm_Works0 hk) rfl inX9 (by decide) fl_X9_58 rfl dX9_copyFrom_85 ?_
    refine lv_icmp_ge (tgt := 112) hx hb dX9_copyFrom_88 (by decide) (fun c1001 => ?_) (fun c1001 => ?_)
    · rw [if_pos c1001] at h
      refine lv_aload_n hx hb dX9_copyFrom_112 rfl (lv_at hl 0 rfl) ?_
      refine lv_aload_n hx hb dX9_copyFrom_113 rfl (lv_at hl 1 rfl) ?_
      refine rGet (k := 9) C hW (wB_lt (r := 0) hk2 (by decide)) (tm_Works0 hk2) rfl inX9 (by decide) fl_X9_62 rfl dX9_copyFrom_114 ?_
      refine rPut (k := 9) C hW hS (wB_lt (r := 0) hk (by decide)) (tm_Works0 hk) rfl inX9 tyX9_ok nmX9 (by decide) fl_X9_62 rfl (by decide +kernel) (Nat.le_of_ble_eq_true rfl) (upd_Works_came hk _) dX9_copyFrom_117 (fun H locs hW hS => ?_)
      have hW : Wd g (up2 M k 53 (M k2 53)) H := hW
      have h := letE h
      generalize up2 M k 53 (M k2 53) = M1002 at hW h
      refine lv_iconst (v := 0) hx hb dX9_copyFrom_120 (by decide) ?_
      refine lv_istore_n (lv' := [(2, .int (0)), (0, rf g (wB k)), (1, rf g (wB k2))]) hx hb dX9_copyFrom_121 rfl hl (by decide) rfl (fun ls hl => ?_)
      exact t_X9_copyFrom_122 l g k k2 hk hk2   FU M1002 0 _ _ h C hr hlk _ _ hW hS ls (lv_sub hl [1, 2, 0] rfl)
    · rw [if_neg c1001] at h
      refine lv_aload_n hx hb dX9_copyFrom_91 rfl (lv_at hl 0 rfl) ?_
      refine rGet (k := 6) C hW (wB_lt (r := 0) hk (by decide)) (tm_Works0 hk) rfl inX9 (by decide) fl_X9_48 rfl dX9_copyFrom_92 ?_
      refine lv_iload_n hx hb dX9_copyFrom_95 rfl (lv_at hl 2 rfl) ?_
      have s1003 : vin (z) 100 := Classical.byContradiction fun q9 => by rw [if_neg q9] at h; cases h
      rw [if_pos s1003] at h
      refine rRld (j := 4) C hW (wB_lt hk (by decide)) (tm_bells hk) rfl s1003 dX9_copyFrom_96 ?_
      refine lv_aload_n hx hb dX9_copyFrom_97 rfl (lv_at hl 1 rfl) ?_
      refine rGet (k := 6) C hW (wB_lt (r := 0) hk2 (by decide)) (tm_Works0 hk2) rfl inX9 (by decide) fl_X9_48 rfl dX9_copyFrom_98 ?_
      refine lv_iload_n hx hb dX9_copyFrom_101 rfl (lv_at hl 2 rfl) ?_
      have s1004 : vin (z) 100 := Classical.byContradiction fun q9 => by rw [if_neg q9] at h; cases h
      rw [if_pos s1004] at h
      refine rRld (j := 4) C hW (wB_lt hk2 (by decide)) (tm_bells hk2) rfl s1004 dX9_copyFrom_102 ?_
      obtain ⟨r1005, M1006, h1007, h⟩ := bind2 h
      refine cBackV C.2.2.2.2.2.2.2.2 (runV (As := [rf g (wB k2 + (36 + 2 * (z : Int32).toNatClampNeg))]) (rest := []) C hW hS (c_X0_copyFrom l g M k ((z : Int32).toNatClampNeg) k2 ((z : Int32).toNatClampNeg) hk (vp_lt s1003) hk2 (vp_lt s1004) _ _ h1007) kV_X0_copyFrom ml_X9_86 (wB_lt hk (by have := (vp_lt s1003); omega)) (tm_Bell hk (vp_lt s1003)) rfl rfl rfl hl.1 rfl (Nat.le_of_ble_eq_true rfl) ⟨Nat.le_of_ble_eq_true rfl, Nat.le_of_ble_eq_true rfl⟩ ⟨Nat.zero_le _, Nat.zero_le _⟩ dX9_copyFrom_103) hS (fun v0 H locs hp hW hS => ?_)
      subst hp
      refine lv_iinc (v := z + 1) (lv' := [(2, .int (z + 1)), (0, rf g (wB k)), (1, rf g (wB k2))]) hx hb dX9_copyFrom_106 hl (k := 2) rfl rfl (by decide) rfl (fun ls hl => ?_)
      refine lv_goto (tgt := 83) hx hb dX9_copyFrom_109 (by decide) ?_
      exact ih M1006 (z + 1) h _ _ hW hS ls (lv_sub hl [1, 2, 0] rfl)
set_option maxHeartbeats 4000000 in
set_option maxRecDepth 100000 in
theorem c_X9_copyFrom (l : Launch) (g : GD) (M : MM) (k : Nat) (k2 : Nat) (hk : k < 5) (hk2 : k2 < 5) (r : Unit) (M2 : MM) (h : f_X9_copyFrom M k k2 = some (r, M2)) : Met l yX9_copyFrom (wm yX9_copyFrom cX9_copyFrom 3 none) (RM 2 43) (va_Pc [rf g (wB k), rf g (wB k2)] (WDp g M)) (QV g (fun w0 => M2 = w0)) 0 0 (AA g) := by
  refine mkM (by decide +kernel) (Nat.le_of_ble_eq_true rfl) ?_
  intro p e s m below meth c C hr hlk hW hS ls hl
  have hl : lv_has ls 3 [(0, rf g (wB k)), (1, rf g (wB k2))] := hl
  have hx := C.1
  have hb := C.2.1
  have hts := C.2.2.2.2.1
  unfold f_X9_copyFrom at h
  refine lv_aload_n hx hb dX9_copyFrom_0 rfl (lv_at hl 0 rfl) ?_
  refine rGet (k := 0) C hW (wB_lt (r := 0) hk (by decide)) (tm_Works0 hk) rfl inX9 (by decide) fl_X9_12 rfl dX9_copyFrom_1 ?_
  refine lv_aload_n hx hb dX9_copyFrom_4 rfl (lv_at hl 1 rfl) ?_
  refine rGet (k := 0) C hW (wB_lt (r := 0) hk2 (by decide)) (tm_Works0 hk2) rfl inX9 (by decide) fl_X9_12 rfl dX9_copyFrom_5 ?_
  obtain ⟨r1, M2, h3, h⟩ := bind2 h
  refine cBackV C.2.2.2.2.2.2.2.2 (runV (As := [rf g (wB k2 + 1)]) (rest := []) C hW hS (c_X6_copyFrom l g M (wB k + 1) k 2 (wB k2 + 1) k2 2 (MX_bought hk) (MX_bought hk2) _ _ h3) kV_X6_copyFrom ml_X9_73 (MX_bought hk).lt (MX_bought hk).cel rfl rfl rfl hl.1 rfl (Nat.le_of_ble_eq_true rfl) ⟨Nat.le_of_ble_eq_true rfl, Nat.le_of_ble_eq_true rfl⟩ ⟨Nat.zero_le _, Nat.zero_le _⟩ dX9_copyFrom_8) hS (fun v0 H locs hp hW hS => ?_)
  subst hp
  refine lv_aload_n hx hb dX9_copyFrom_11 rfl (lv_at hl 0 rfl) ?_
  refine rGet (k := 1) C hW (wB_lt (r := 0) hk (by decide)) (tm_Works0 hk) rfl inX9 (by decide) fl_X9_18 rfl dX9_copyFrom_12 ?_
  refine lv_aload_n hx hb dX9_copyFrom_15 rfl (lv_at hl 1 rfl) ?_
  refine rGet (k := 1) C hW (wB_lt (r := 0) hk2 (by decide)) (tm_Works0 hk2) rfl inX9 (by decide) fl_X9_18 rfl dX9_copyFrom_16 ?_
  obtain ⟨r4, M5, h6, h⟩ := bind2 h
  refine cBackV C.2.2.2.2.2.2.2.2 (runV (As := [rf g (wB k2 + 2)]) (rest := []) C hW hS (c_X6_copyFrom l g M2 (wB k + 2) k 0 (wB k2 + 2) k2 0 (MX_stock hk) (MX_stock hk2) _ _ h6) kV_X6_copyFrom ml_X9_73 (MX_stock hk).lt (MX_stock hk).cel rfl rfl rfl hl.1 rfl (Nat.le_of_ble_eq_true rfl) ⟨Nat.le_of_ble_eq_true rfl, Nat.le_of_ble_eq_true rfl⟩ ⟨Nat.zero_le _, Nat.zero_le _⟩ dX9_copyFrom_19) hS (fun v0 H locs hp hW hS => ?_)
  subst hp
  refine lv_aload_n hx hb dX9_copyFrom_22 rfl (lv_at hl 0 rfl) ?_
  refine rGet (k := 2) C hW (wB_lt (r := 0) hk (by decide)) (tm_Works0 hk) rfl inX9 (by decide) fl_X9_21 rfl dX9_copyFrom_23 ?_
  refine lv_aload_n hx hb dX9_copyFrom_26 rfl (lv_at hl 1 rfl) ?_
  refine rGet (k := 2) C hW (wB_lt (r := 0) hk2 (by decide)) (tm_Works0 hk2) rfl inX9 (by decide) fl_X9_21 rfl dX9_copyFrom_27 ?_
  obtain ⟨r7, M8, h9, h⟩ := bind2 h
  refine cBackV C.2.2.2.2.2.2.2.2 (runV (As := [rf g (wB k2 + 3)]) (rest := []) C hW hS (c_X6_copyFrom l g M5 (wB k + 3) k 4 (wB k2 + 3) k2 4 (MX_slag hk) (MX_slag hk2) _ _ h9) kV_X6_copyFrom ml_X9_73 (MX_slag hk).lt (MX_slag hk).cel rfl rfl rfl hl.1 rfl (Nat.le_of_ble_eq_true rfl) ⟨Nat.le_of_ble_eq_true rfl, Nat.le_of_ble_eq_true rfl⟩ ⟨Nat.zero_le _, Nat.zero_le _⟩ dX9_copyFrom_30) hS (fun v0 H locs hp hW hS => ?_)
  subst hp
  refine lv_aload_n hx hb dX9_copyFrom_33 rfl (lv_at hl 0 rfl) ?_
  refine rGet (k := 3) C hW (wB_lt (r := 0) hk (by decide)) (tm_Works0 hk) rfl inX9 (by decide) fl_X9_24 rfl dX9_copyFrom_34 ?_
  refine lv_aload_n hx hb dX9_copyFrom_37 rfl (lv_at hl 1 rfl) ?_
  refine rGet (k := 3) C hW (wB_lt (r := 0) hk2 (by decide)) (tm_Works0 hk2) rfl inX9 (by decide) fl_X9_24 rfl dX9_copyFrom_38 ?_
  obtain ⟨r10, M11, h12, h⟩ := bind2 h
  refine cBackV C.2.2.2.2.2.2.2.2 (runV (As := [rf g (wB k2 + 4)]) (rest := []) C hW hS (c_X6_copyFrom l g M8 (wB k + 4) k 6 (wB k2 + 4) k2 6 (MX_melt hk) (MX_melt hk2) _ _ h12) kV_X6_copyFrom ml_X9_73 (MX_melt hk).lt (MX_melt hk).cel rfl rfl rfl hl.1 rfl (Nat.le_of_ble_eq_true rfl) ⟨Nat.le_of_ble_eq_true rfl, Nat.le_of_ble_eq_true rfl⟩ ⟨Nat.zero_le _, Nat.zero_le _⟩ dX9_copyFrom_41) hS (fun v0 H locs hp hW hS => ?_)
  subst hp
  refine lv_aload_n hx hb dX9_copyFrom_44 rfl (lv_at hl 0 rfl) ?_
  refine rGet (k := 4) C hW (wB_lt (r := 0) hk (by decide)) (tm_Works0 hk) rfl inX9 (by decide) fl_X9_30 rfl dX9_copyFrom_45 ?_
  refine lv_aload_n hx hb dX9_copyFrom_48 rfl (lv_at hl 1 rfl) ?_
  refine rGet (k := 4) C hW (wB_lt (r := 0) hk2 (by decide)) (tm_Works0 hk2) rfl inX9 (by decide) fl_X9_30 rfl dX9_copyFrom_49 ?_
  obtain ⟨r13, M14, h15, h⟩ := bind2 h
  refine cBackV C.2.2.2.2.2.2.2.2 (runV (As := [rf g (wB k2 + 5)]) (rest := []) C hW hS (c_X2_copyFrom l g M11 k k2 hk hk2 _ _ h15) kV_X2_copyFrom ml_X9_77 (wB_lt hk (by decide)) (tm_Heap hk) rfl rfl rfl hl.1 rfl (Nat.le_of_ble_eq_true rfl) ⟨Nat.le_of_ble_eq_true rfl, Nat.le_of_ble_eq_true rfl⟩ ⟨Nat.zero_le _, Nat.zero_le _⟩ dX9_copyFrom_52) hS (fun v0 H locs hp hW hS => ?_)
  subst hp
  refine lv_aload_n hx hb dX9_copyFrom_55 rfl (lv_at hl 1 rfl) ?_
  refine rGet (k := 5) C hW (wB_lt (r := 0) hk2 (by decide)) (tm_Works0 hk2) rfl inX9 (by decide) fl_X9_43 rfl dX9_copyFrom_56 ?_
  refine lv_iconst (v := 0) hx hb dX9_copyFrom_59 (by decide) ?_
  refine lv_aload_n hx hb dX9_copyFrom_60 rfl (lv_at hl 0 rfl) ?_
  refine rGet (k := 5) C hW (wB_lt (r := 0) hk (by decide)) (tm_Works0 hk) rfl inX9 (by decide) fl_X9_43 rfl dX9_copyFrom_61 ?_
  refine lv_iconst (v := 0) hx hb dX9_copyFrom_64 (by decide) ?_
  refine lv_aload_n hx hb dX9_copyFrom_65 rfl (lv_at hl 0 rfl) ?_
  refine rGet (k := 5) C hW (wB_lt (r := 0) hk (by decide)) (tm_Works0 hk) rfl inX9 (by decide) fl_X9_43 rfl dX9_copyFrom_66 ?_
  refine rLenI (j := 0) (v := 7) C hW (wB_lt hk (by decide)) (tm_settings hk) rfl (by decide) dX9_copyFrom_69 ?_
  refine rCopyS C hW hS hk2 hk hl.1.symm ml_X9_80 (Nat.le_of_ble_eq_true rfl) (Nat.le_of_ble_eq_true rfl) dX9_copyFrom_70 (fun H locs hW hS => ?_)
  have hW : Wd g (cpyS M14 k2 k) H := hW
  have h := letE h
  generalize cpyS M14 k2 k = M16 at hW h
  refine lv_aload_n hx hb dX9_copyFrom_73 rfl (lv_at hl 0 rfl) ?_
  refine lv_aload_n hx hb dX9_copyFrom_74 rfl (lv_at hl 1 rfl) ?_
  refine rGet (k := 8) C hW (wB_lt (r := 0) hk2 (by decide)) (tm_Works0 hk2) rfl inX9 (by decide) fl_X9_58 rfl dX9_copyFrom_75 ?_
  refine rPut (k := 8) C hW hS (wB_lt (r := 0) hk (by decide)) (tm_Works0 hk) rfl inX9 tyX9_ok nmX9 (by decide) fl_X9_58 rfl (by decide +kernel) (Nat.le_of_ble_eq_true rfl) (upd_Works_poured hk _) dX9_copyFrom_78 (fun H locs hW hS => ?_)
  have hW : Wd g (up2 M16 k 52 (M16 k2 52)) H := hW
  have h := letE h
  generalize up2 M16 k 52 (M16 k2 52) = M17 at hW h
  refine lv_iconst (v := 0) hx hb dX9_copyFrom_81 (by decide) ?_
  refine lv_istore_n (lv' := [(2, .int (0)), (0, rf g (wB k)), (1, rf g (wB k2))]) hx hb dX9_copyFrom_82 rfl hl (by decide) rfl (fun ls hl => ?_)
  exact t_X9_copyFrom_83 l g k k2 hk hk2   FU M17 0 _ _ h C hr hlk _ _ hW hS ls (lv_sub hl [1, 2, 0] rfl)
def lp_X3_dropOldest_9 (fu : Nat) (M : MM)  (cd : Int32) (z : Int32) : Option (Unit × MM) := match fu with
  | 0 => none
  | n + 1 => (if (4 : Int32) ≤ (z : Int32) then (if vin ((4) - (1)) 4 then (letB (up2 M 35 ((4) - (1) : Int32).toNatClampNeg (cd)) fun M1003 => (letB (up2 M1003 6 0 ((4) - (1))) fun M1004 => some ((), M1004))) else none) else (if vin (z) 4 then (if (M 35 (z : Int32).toNatClampNeg).toNatClampNeg < 5 then (if vin ((z) - (1)) 4 then (letB (up2 M 35 ((z) - (1) : Int32).toNatClampNeg (M 35 (z : Int32).toNatClampNeg)) fun M1008 => (lp_X3_dropOldest_9 n M1008  cd (z + 1))) else none) else none) else none))
def f_X3_dropOldest (M : MM)  : Option (Unit × MM) := (if vin (0) 4 then (if (M 35 (0 : Int32).toNatClampNeg).toNatClampNeg < 5 then (lp_X3_dropOldest_9 FU M  (M 35 (0 : Int32).toNatClampNeg) 1) else none) else none)
set_option maxHeartbeats 4000000 in
set_option maxRecDepth 100000 in
theorem t_X3_dropOldest_9 (l : Launch) (g : GD) {p : Program} {e : Env} {s : State} {m : MethodId} {av : Array Value} {below : List Frame} {meth : Method} {c : Code}  (cd : Int32) (hq : cd.toNatClampNeg < 5) (n : Nat) : ∀ (M : MM) (z : Int32) (r : Unit) (M2 : MM), lp_X3_dropOldest_9 n M  cd z = some (r, M2) → CX p s m av c cX3_dropOldest 3 RX3 g → meth.sig.returnType = none → meth.locks = false → ∀ (H : Heap) (locs : List Loc), Wd g M H → sS g s H locs → ∀ ls : Array Slot, lv_has ls 3 [(0, rf g (337)), (1, rf g (wB cd.toNatClampNeg)), (2, .int (z))] → W p l e (RM 0 0) s m av below meth c H locs 0 0 (MQ below (QV g (fun w0 => M2 = w0)) av s 0 0 (AA g)) (F0 m 9 ls []) := by
  induction n with
  | zero => intro M z r M2 h; cases h
  | succ n ih0 =>
    intro M z r M2 h C hr hlk H locs hW hS ls hl
    have ih : ∀ (M : MM) (z : Int32), lp_X3_dropOldest_9 n M  cd z = some (r, M2) → ∀ (H : Heap) (locs : List Loc), Wd g M H → sS g s H locs → ∀ ls : Array Slot, lv_has ls 3 [(0, rf g (337)), (1, rf g (wB cd.toNatClampNeg)), (2, .int (z))] → W p l e (RM 0 0) s m av below meth c H locs 0 0 (MQ below (QV g (fun w0 => M2 = w0)) av s 0 0 (AA g)) (F0 m 9 ls []) := fun M z h H locs hW hS ls hl => ih0 M z r M2 h C hr hlk H locs hW hS ls hl
    unfold lp_X3_dropOldest_9 at h
    try dsimp only at h
    have hx := C.1
    have hb := C.2.1
    have hts := C.2.2.2.2.1
    refine lv_iload_n hx hb dX3_dropOldest_9 rfl (lv_at hl 2 rfl) ?_
    refine lv_aload_n hx hb dX3_dropOldest_10 rfl (lv_at hl 0 rfl) ?_
    refine rGet (k := 0) C hW (by decide) tm_Hist rfl inX3 (by decide) fl_X3_11 rfl dX3_dropOldest_11 ?_
    refine rLenI (j := 6) (v := 4) C hW (by decide) tm_states rfl (by decide) dX3_dropOldest_14 ?_
    refine lv_icmp_ge (tgt := 38) hx hb dX3_dropOldest_15 (by decide) (fun c1001 => ?_) (fun c1001 => ?_)
    · rw [if_pos c1001] at h
      refine lv_aload_n hx hb dX3_dropOldest_38 rfl (lv_at hl 0 rfl) ?_
      refine rGet (k := 0) C hW (by decide) tm_Hist rfl inX3 (by decide) fl_X3_11 rfl dX3_dropOldest_39 ?_
      refine lv_aload_n hx hb dX3_dropOldest_42 rfl (lv_at hl 0 rfl) ?_
      refine rGet (k := 0) C hW (by decide) tm_Hist rfl inX3 (by decide) fl_X3_11 rfl dX3_dropOldest_43 ?_
      refine rLenI (j := 6) (v := 4) C hW (by decide) tm_states rfl (by decide) dX3_dropOldest_46 ?_
      refine lv_iconst (v := 1) hx hb dX3_dropOldest_47 (by decide) ?_
      refine lv_isub hx hb dX3_dropOldest_48 ?_
      refine lv_aload_n hx hb dX3_dropOldest_49 rfl (lv_at hl 1 rfl) ?_
      have s1002 : vin ((4) - (1)) 4 := Classical.byContradiction fun q9 => by rw [if_neg q9] at h; cases h
      rw [if_pos s1002] at h
      refine rRst (j := 6) (ci := 9) (M' := up2 M 35 ((4) - (1) : Int32).toNatClampNeg (cd)) (f' := fun i => wB (up2 M 35 ((4) - (1) : Int32).toNatClampNeg (cd) 35 i).toNatClampNeg) C hW hS (by decide) tm_states rfl (wB_lt (r := 0) hq (by decide)) (tm_Works0 hq) rfl s1002 (fun q => by simp only [up2_gr, upd]; split <;> rfl) (UPD_G (by decide) rfl rfl) dX3_dropOldest_50 (fun H locs hW hS => ?_)
      have hW : Wd g (up2 M 35 ((4) - (1) : Int32).toNatClampNeg (cd)) H := hW
      have h := letE h
      generalize up2 M 35 ((4) - (1) : Int32).toNatClampNeg (cd) = M1003 at hW h
      refine lv_aload_n hx hb dX3_dropOldest_51 rfl (lv_at hl 0 rfl) ?_
      refine lv_aload_n hx hb dX3_dropOldest_52 rfl (lv_at hl 0 rfl) ?_
      refine rGet (k := 0) C hW (by decide) tm_Hist rfl inX3 (by decide) fl_X3_11 rfl dX3_dropOldest_53 ?_
      refine rLenI (j := 6) (v := 4) C hW (by decide) tm_states rfl (by decide) dX3_dropOldest_56 ?_
      refine lv_iconst (v := 1) hx hb dX3_dropOldest_57 (by decide) ?_
      refine lv_isub hx hb dX3_dropOldest_58 ?_
      refine rPut (k := 1) C hW hS (by decide) tm_Hist rfl inX3 tyX3_ok nmX3 (by decide) fl_X3_17 rfl (by decide +kernel) (Nat.le_of_ble_eq_true rfl) (upd_Hist_size _) dX3_dropOldest_59 (fun H locs hW hS => ?_)
      have hW : Wd g (up2 M1003 6 0 ((4) - (1))) H := hW
      have h := letE h
      generalize up2 M1003 6 0 ((4) - (1)) = M1004 at hW h
      cases h
      exact rV C hr hlk dX3_dropOldest_62 hW hS rfl
    · rw [if_neg c1001] at h
      refine lv_aload_n hx hb dX3_dropOldest_18 rfl (lv_at hl 0 rfl) ?_
      refine rGet (k := 0) C hW (by decide) tm_Hist rfl inX3 (by decide) fl_X3_11 rfl dX3_dropOldest_19 ?_
      refine lv_iload_n hx hb dX3_dropOldest_22 rfl (lv_at hl 2 rfl) ?_
      refine lv_iconst (v := 1) hx hb dX3_dropOldest_23 (by decide) ?_
      refine lv_isub hx hb dX3_dropOldest_24 ?_
      refine lv_aload_n hx hb dX3_dropOldest_25 rfl (lv_at hl 0 rfl) ?_
      refine rGet (k := 0) C hW (by decide) tm_Hist rfl inX3 (by decide) fl_X3_11 rfl dX3_dropOldest_26 ?_
      refine lv_iload_n hx hb dX3_dropOldest_29 rfl (lv_at hl 2 rfl) ?_
      have s1005 : vin (z) 4 := Classical.byContradiction fun q9 => by rw [if_neg q9] at h; cases h
      rw [if_pos s1005] at h
      have s1006 : (M 35 (z : Int32).toNatClampNeg).toNatClampNeg < 5 := Classical.byContradiction fun q9 => by rw [if_neg q9] at h; cases h
      rw [if_pos s1006] at h
      refine rRld (j := 6) C hW (by decide) tm_states rfl s1005 dX3_dropOldest_30 ?_
      have s1007 : vin ((z) - (1)) 4 := Classical.byContradiction fun q9 => by rw [if_neg q9] at h; cases h
      rw [if_pos s1007] at h
      refine rRst (j := 6) (ci := 9) (M' := up2 M 35 ((z) - (1) : Int32).toNatClampNeg (M 35 (z : Int32).toNatClampNeg)) (f' := fun i => wB (up2 M 35 ((z) - (1) : Int32).toNatClampNeg (M 35 (z : Int32).toNatClampNeg) 35 i).toNatClampNeg) C hW hS (by decide) tm_states rfl (wB_lt (r := 0) s1006 (by decide)) (tm_Works0 s1006) rfl s1007 (fun q => by simp only [up2_gr, upd]; split <;> rfl) (UPD_G (by decide) rfl rfl) dX3_dropOldest_31 (fun H locs hW hS => ?_)
      have hW : Wd g (up2 M 35 ((z) - (1) : Int32).toNatClampNeg (M 35 (z : Int32).toNatClampNeg)) H := hW
      have h := letE h
      generalize up2 M 35 ((z) - (1) : Int32).toNatClampNeg (M 35 (z : Int32).toNatClampNeg) = M1008 at hW h
      refine lv_iinc (v := z + 1) (lv' := [(2, .int (z + 1)), (0, rf g (337)), (1, rf g (wB cd.toNatClampNeg))]) hx hb dX3_dropOldest_32 hl (k := 2) rfl rfl (by decide) rfl (fun ls hl => ?_)
      refine lv_goto (tgt := 9) hx hb dX3_dropOldest_35 (by decide) ?_
      exact ih M1008 (z + 1) h _ _ hW hS ls (lv_sub hl [1, 2, 0] rfl)
set_option maxHeartbeats 4000000 in
set_option maxRecDepth 100000 in
theorem c_X3_dropOldest (l : Launch) (g : GD) (M : MM)  (r : Unit) (M2 : MM) (h : f_X3_dropOldest M  = some (r, M2)) : Met l yX3_dropOldest (wm yX3_dropOldest cX3_dropOldest 3 none) (RM 0 0) (va_Pc [rf g (337)] (WDp g M)) (QV g (fun w0 => M2 = w0)) 0 0 (AA g) := by
  refine mkM (by decide +kernel) (Nat.le_of_ble_eq_true rfl) ?_
  intro p e s m below meth c C hr hlk hW hS ls hl
  have hl : lv_has ls 3 [(0, rf g (337))] := hl
  have hx := C.1
  have hb := C.2.1
  have hts := C.2.2.2.2.1
  unfold f_X3_dropOldest at h
  refine lv_aload_n hx hb dX3_dropOldest_0 rfl (lv_at hl 0 rfl) ?_
  refine rGet (k := 0) C hW (by decide) tm_Hist rfl inX3 (by decide) fl_X3_11 rfl dX3_dropOldest_1 ?_
  refine lv_iconst (v := 0) hx hb dX3_dropOldest_4 (by decide) ?_
  have s1 : vin (0) 4 := Classical.byContradiction fun q9 => by rw [if_neg q9] at h; cases h
  rw [if_pos s1] at h
  have s2 : (M 35 (0 : Int32).toNatClampNeg).toNatClampNeg < 5 := Classical.byContradiction fun q9 => by rw [if_neg q9] at h; cases h
  rw [if_pos s2] at h
  refine rRld (j := 6) C hW (by decide) tm_states rfl s1 dX3_dropOldest_5 ?_
  refine lv_astore_n (lv' := [(1, rf g (wB (M 35 (0 : Int32).toNatClampNeg).toNatClampNeg)), (0, rf g (337))]) hx hb dX3_dropOldest_6 rfl hl (by decide) rfl (fun ls hl => ?_)
  refine lv_iconst (v := 1) hx hb dX3_dropOldest_7 (by decide) ?_
  refine lv_istore_n (lv' := [(2, .int (1)), (1, rf g (wB (M 35 (0 : Int32).toNatClampNeg).toNatClampNeg)), (0, rf g (337))]) hx hb dX3_dropOldest_8 rfl hl (by decide) rfl (fun ls hl => ?_)
  exact t_X3_dropOldest_9 l g  (M 35 (0 : Int32).toNatClampNeg) s2 FU M 1 _ _ h C hr hlk _ _ hW hS ls (lv_sub hl [2, 1, 0] rfl)
def f_X3_keep (M : MM) (k : Nat) : Option (Unit × MM) := (if (M 6 0 : Int32) < (4 : Int32) then (if vin (M 6 0) 4 then (if (M 35 (M 6 0 : Int32).toNatClampNeg).toNatClampNeg < 5 then (bnd2 (f_X9_copyFrom M ((M 35 (M 6 0 : Int32).toNatClampNeg).toNatClampNeg) k) fun r4 M5 => (letB (up2 M5 6 0 ((M5 6 0) + (1))) fun M7 => some ((), M7))) else none) else none) else (bnd2 (f_X3_dropOldest M ) fun r8 M9 => (if vin (M9 6 0) 4 then (if (M9 35 (M9 6 0 : Int32).toNatClampNeg).toNatClampNeg < 5 then (bnd2 (f_X9_copyFrom M9 ((M9 35 (M9 6 0 : Int32).toNatClampNeg).toNatClampNeg) k) fun r13 M14 => (letB (up2 M14 6 0 ((M14 6 0) + (1))) fun M16 => some ((), M16))) else none) else none)))
set_option maxHeartbeats 4000000 in
set_option maxRecDepth 100000 in
theorem c_X3_keep (l : Launch) (g : GD) (M : MM) (k : Nat) (hk : k < 5) (r : Unit) (M2 : MM) (h : f_X3_keep M k = some (r, M2)) : Met l yX3_keep (wm yX3_keep cX3_keep 2 none) (RM 3 65) (va_Pc [rf g (337), rf g (wB k)] (WDp g M)) (QV g (fun w0 => M2 = w0)) 0 0 (AA g) := by
  refine mkM (by decide +kernel) (Nat.le_of_ble_eq_true rfl) ?_
  intro p e s m below meth c C hr hlk hW hS ls hl
  have hl : lv_has ls 2 [(0, rf g (337)), (1, rf g (wB k))] := hl
  have hx := C.1
  have hb := C.2.1
  have hts := C.2.2.2.2.1
  unfold f_X3_keep at h
  refine lv_aload_n hx hb dX3_keep_0 rfl (lv_at hl 0 rfl) ?_
  refine rGet (k := 1) C hW (by decide) tm_Hist rfl inX3 (by decide) fl_X3_17 rfl dX3_keep_1 ?_
  refine lv_aload_n hx hb dX3_keep_4 rfl (lv_at hl 0 rfl) ?_
  refine rGet (k := 0) C hW (by decide) tm_Hist rfl inX3 (by decide) fl_X3_11 rfl dX3_keep_5 ?_
  refine rLenI (j := 6) (v := 4) C hW (by decide) tm_states rfl (by decide) dX3_keep_8 ?_
  refine lv_icmp_lt (tgt := 16) hx hb dX3_keep_9 (by decide) (fun c1 => ?_) (fun c1 => ?_)
  · rw [if_pos c1] at h
    refine lv_aload_n hx hb dX3_keep_16 rfl (lv_at hl 0 rfl) ?_
    refine rGet (k := 0) C hW (by decide) tm_Hist rfl inX3 (by decide) fl_X3_11 rfl dX3_keep_17 ?_
    refine lv_aload_n hx hb dX3_keep_20 rfl (lv_at hl 0 rfl) ?_
    refine rGet (k := 1) C hW (by decide) tm_Hist rfl inX3 (by decide) fl_X3_17 rfl dX3_keep_21 ?_
    have s2 : vin (M 6 0) 4 := Classical.byContradiction fun q9 => by rw [if_neg q9] at h; cases h
    rw [if_pos s2] at h
    have s3 : (M 35 (M 6 0 : Int32).toNatClampNeg).toNatClampNeg < 5 := Classical.byContradiction fun q9 => by rw [if_neg q9] at h; cases h
    rw [if_pos s3] at h
    refine rRld (j := 6) C hW (by decide) tm_states rfl s2 dX3_keep_24 ?_
    refine lv_aload_n hx hb dX3_keep_25 rfl (lv_at hl 1 rfl) ?_
    obtain ⟨r4, M5, h6, h⟩ := bind2 h
    refine cBackV C.2.2.2.2.2.2.2.2 (runV (As := [rf g (wB k)]) (rest := []) C hW hS (c_X9_copyFrom l g M ((M 35 (M 6 0 : Int32).toNatClampNeg).toNatClampNeg) k s3 hk _ _ h6) kV_X9_copyFrom ml_X3_25 (wB_lt (r := 0) s3 (by decide)) (tm_Works0 s3) rfl rfl rfl hl.1 rfl (Nat.le_of_ble_eq_true rfl) ⟨Nat.le_of_ble_eq_true rfl, Nat.le_of_ble_eq_true rfl⟩ ⟨Nat.zero_le _, Nat.zero_le _⟩ dX3_keep_26) hS (fun v0 H locs hp hW hS => ?_)
    subst hp
    refine lv_aload_n hx hb dX3_keep_29 rfl (lv_at hl 0 rfl) ?_
    refine lv_dup hx hb dX3_keep_30 rfl ?_
    refine rGet (k := 1) C hW (by decide) tm_Hist rfl inX3 (by decide) fl_X3_17 rfl dX3_keep_31 ?_
    refine lv_iconst (v := 1) hx hb dX3_keep_34 (by decide) ?_
    refine lv_iadd hx hb dX3_keep_35 ?_
    refine rPut (k := 1) C hW hS (by decide) tm_Hist rfl inX3 tyX3_ok nmX3 (by decide) fl_X3_17 rfl (by decide +kernel) (Nat.le_of_ble_eq_true rfl) (upd_Hist_size _) dX3_keep_36 (fun H locs hW hS => ?_)
    have hW : Wd g (up2 M5 6 0 ((M5 6 0) + (1))) H := hW
    have h := letE h
    generalize up2 M5 6 0 ((M5 6 0) + (1)) = M7 at hW h
    cases h
    exact rV C hr hlk dX3_keep_39 hW hS rfl
  · rw [if_neg c1] at h
    refine lv_aload_n hx hb dX3_keep_12 rfl (lv_at hl 0 rfl) ?_
    obtain ⟨r8, M9, h10, h⟩ := bind2 h
    refine cBackV C.2.2.2.2.2.2.2.2 (runV (As := []) (rest := []) C hW hS (c_X3_dropOldest l g M  _ _ h10) kV_X3_dropOldest ml_X3_22 (by decide) tm_Hist rfl rfl rfl hl.1 rfl (Nat.le_of_ble_eq_true rfl) ⟨Nat.le_of_ble_eq_true rfl, Nat.le_of_ble_eq_true rfl⟩ ⟨Nat.zero_le _, Nat.zero_le _⟩ dX3_keep_13) hS (fun v0 H locs hp hW hS => ?_)
    subst hp
    refine lv_aload_n hx hb dX3_keep_16 rfl (lv_at hl 0 rfl) ?_
    refine rGet (k := 0) C hW (by decide) tm_Hist rfl inX3 (by decide) fl_X3_11 rfl dX3_keep_17 ?_
    refine lv_aload_n hx hb dX3_keep_20 rfl (lv_at hl 0 rfl) ?_
    refine rGet (k := 1) C hW (by decide) tm_Hist rfl inX3 (by decide) fl_X3_17 rfl dX3_keep_21 ?_
    have s11 : vin (M9 6 0) 4 := Classical.byContradiction fun q9 => by rw [if_neg q9] at h; cases h
    rw [if_pos s11] at h
    have s12 : (M9 35 (M9 6 0 : Int32).toNatClampNeg).toNatClampNeg < 5 := Classical.byContradiction fun q9 => by rw [if_neg q9] at h; cases h
    rw [if_pos s12] at h
    refine rRld (j := 6) C hW (by decide) tm_states rfl s11 dX3_keep_24 ?_
    refine lv_aload_n hx hb dX3_keep_25 rfl (lv_at hl 1 rfl) ?_
    obtain ⟨r13, M14, h15, h⟩ := bind2 h
    refine cBackV C.2.2.2.2.2.2.2.2 (runV (As := [rf g (wB k)]) (rest := []) C hW hS (c_X9_copyFrom l g M9 ((M9 35 (M9 6 0 : Int32).toNatClampNeg).toNatClampNeg) k s12 hk _ _ h15) kV_X9_copyFrom ml_X3_25 (wB_lt (r := 0) s12 (by decide)) (tm_Works0 s12) rfl rfl rfl hl.1 rfl (Nat.le_of_ble_eq_true rfl) ⟨Nat.le_of_ble_eq_true rfl, Nat.le_of_ble_eq_true rfl⟩ ⟨Nat.zero_le _, Nat.zero_le _⟩ dX3_keep_26) hS (fun v0 H locs hp hW hS => ?_)
    subst hp
    refine lv_aload_n hx hb dX3_keep_29 rfl (lv_at hl 0 rfl) ?_
    refine lv_dup hx hb dX3_keep_30 rfl ?_
    refine rGet (k := 1) C hW (by decide) tm_Hist rfl inX3 (by decide) fl_X3_17 rfl dX3_keep_31 ?_
    refine lv_iconst (v := 1) hx hb dX3_keep_34 (by decide) ?_
    refine lv_iadd hx hb dX3_keep_35 ?_
    refine rPut (k := 1) C hW hS (by decide) tm_Hist rfl inX3 tyX3_ok nmX3 (by decide) fl_X3_17 rfl (by decide +kernel) (Nat.le_of_ble_eq_true rfl) (upd_Hist_size _) dX3_keep_36 (fun H locs hW hS => ?_)
    have hW : Wd g (up2 M14 6 0 ((M14 6 0) + (1))) H := hW
    have h := letE h
    generalize up2 M14 6 0 ((M14 6 0) + (1)) = M16 at hW h
    cases h
    exact rV C hr hlk dX3_keep_39 hW hS rfl
def f_X3_restore (M : MM) (k : Nat) : Option (Unit × MM) := (if (1 : Int32) ≤ (M 6 0 : Int32) then (letB (up2 M 6 0 ((M 6 0) - (1))) fun M2 => (if vin (M2 6 0) 4 then (if (M2 35 (M2 6 0 : Int32).toNatClampNeg).toNatClampNeg < 5 then (bnd2 (f_X9_copyFrom M2 k ((M2 35 (M2 6 0 : Int32).toNatClampNeg).toNatClampNeg)) fun r5 M6 => some ((), M6)) else none) else none)) else some ((), M))
set_option maxHeartbeats 4000000 in
set_option maxRecDepth 100000 in
theorem c_X3_restore (l : Launch) (g : GD) (M : MM) (k : Nat) (hk : k < 5) (r : Unit) (M2 : MM) (h : f_X3_restore M k = some (r, M2)) : Met l yX3_restore (wm yX3_restore cX3_restore 2 none) (RM 3 65) (va_Pc [rf g (337), rf g (wB k)] (WDp g M)) (QV g (fun w0 => M2 = w0)) 0 0 (AA g) := by
  refine mkM (by decide +kernel) (Nat.le_of_ble_eq_true rfl) ?_
  intro p e s m below meth c C hr hlk hW hS ls hl
  have hl : lv_has ls 2 [(0, rf g (337)), (1, rf g (wB k))] := hl
  have hx := C.1
  have hb := C.2.1
  have hts := C.2.2.2.2.1
  unfold f_X3_restore at h
  refine lv_aload_n hx hb dX3_restore_0 rfl (lv_at hl 0 rfl) ?_
  refine rGet (k := 1) C hW (by decide) tm_Hist rfl inX3 (by decide) fl_X3_17 rfl dX3_restore_1 ?_
  refine lv_iconst (v := 1) hx hb dX3_restore_4 (by decide) ?_
  refine lv_icmp_ge (tgt := 9) hx hb dX3_restore_5 (by decide) (fun c1 => ?_) (fun c1 => ?_)
  · rw [if_pos c1] at h
    refine lv_aload_n hx hb dX3_restore_9 rfl (lv_at hl 0 rfl) ?_
    refine lv_dup hx hb dX3_restore_10 rfl ?_
    refine rGet (k := 1) C hW (by decide) tm_Hist rfl inX3 (by decide) fl_X3_17 rfl dX3_restore_11 ?_
    refine lv_iconst (v := 1) hx hb dX3_restore_14 (by decide) ?_
    refine lv_isub hx hb dX3_restore_15 ?_
    refine rPut (k := 1) C hW hS (by decide) tm_Hist rfl inX3 tyX3_ok nmX3 (by decide) fl_X3_17 rfl (by decide +kernel) (Nat.le_of_ble_eq_true rfl) (upd_Hist_size _) dX3_restore_16 (fun H locs hW hS => ?_)
    have hW : Wd g (up2 M 6 0 ((M 6 0) - (1))) H := hW
    have h := letE h
    generalize up2 M 6 0 ((M 6 0) - (1)) = M2 at hW h
    refine lv_aload_n hx hb dX3_restore_19 rfl (lv_at hl 1 rfl) ?_
    refine lv_aload_n hx hb dX3_restore_20 rfl (lv_at hl 0 rfl) ?_
    refine rGet (k := 0) C hW (by decide) tm_Hist rfl inX3 (by decide) fl_X3_11 rfl dX3_restore_21 ?_
    refine lv_aload_n hx hb dX3_restore_24 rfl (lv_at hl 0 rfl) ?_
    refine rGet (k := 1) C hW (by decide) tm_Hist rfl inX3 (by decide) fl_X3_17 rfl dX3_restore_25 ?_
    have s3 : vin (M2 6 0) 4 := Classical.byContradiction fun q9 => by rw [if_neg q9] at h; cases h
    rw [if_pos s3] at h
    have s4 : (M2 35 (M2 6 0 : Int32).toNatClampNeg).toNatClampNeg < 5 := Classical.byContradiction fun q9 => by rw [if_neg q9] at h; cases h
    rw [if_pos s4] at h
    refine rRld (j := 6) C hW (by decide) tm_states rfl s3 dX3_restore_28 ?_
    obtain ⟨r5, M6, h7, h⟩ := bind2 h
    refine cBackV C.2.2.2.2.2.2.2.2 (runV (As := [rf g (wB (M2 35 (M2 6 0 : Int32).toNatClampNeg).toNatClampNeg)]) (rest := []) C hW hS (c_X9_copyFrom l g M2 k ((M2 35 (M2 6 0 : Int32).toNatClampNeg).toNatClampNeg) hk s4 _ _ h7) kV_X9_copyFrom ml_X3_25 (wB_lt (r := 0) hk (by decide)) (tm_Works0 hk) rfl rfl rfl hl.1 rfl (Nat.le_of_ble_eq_true rfl) ⟨Nat.le_of_ble_eq_true rfl, Nat.le_of_ble_eq_true rfl⟩ ⟨Nat.zero_le _, Nat.zero_le _⟩ dX3_restore_29) hS (fun v0 H locs hp hW hS => ?_)
    subst hp
    cases h
    exact rV C hr hlk dX3_restore_32 hW hS rfl
  · rw [if_neg c1] at h
    cases h
    exact rV C hr hlk dX3_restore_8 hW hS rfl
