def letC {β : Type} (a : CT) (f : CT → β) : β := f a
theorem letEC {β : Type} {a : CT} {f : CT → β} {b : β} (h : letC a f = b) : f a = b := h
def f_X6_init (n : Nat) (ct : CT) (o : Nat) : Option (Nat × CT) := (if o < n ∧ isO (ct o) 6 = true ∧ 0 < (fsOf (ct o)).length then (letC (upC ct o (.inl (6, (fsOf (ct o)).set 0 (.inl (0))))) fun ct2 => (if o < n ∧ isO (ct2 o) 6 = true ∧ 1 < (fsOf (ct2 o)).length then (letC (upC ct2 o (.inl (6, (fsOf (ct2 o)).set 1 (.inl (0))))) fun ct4 => some (n, ct4)) else none)) else none)
theorem kI_X6_init : IW yX6_init cX6_init 1 := ⟨co_X6_init, im_X6_init, in_X6, by decide +kernel, by decide +kernel, by decide +kernel, rfl⟩
set_option maxHeartbeats 4000000 in
set_option maxRecDepth 100000 in
theorem c_X6_init (l : Launch) (g : GD) (n : Nat) (ct : CT) (o : Nat) (n2 : Nat) (ct2 : CT) (h : f_X6_init n ct o = some (n2, ct2)) : Met l yX6_init (wm yX6_init cX6_init 1 none) (RN 1 24 0 0) (va_Pc [rf g o] (WNp g n ct)) (QN g n2 ct2) 0 0 (AU g) := by
  refine mkN (by decide +kernel) rfl (by decide) ?_
  intro p e s m below meth c C hX hin hr hlk hN hS ls hl
  have hx := C.1
  have hb := C.2.1
  unfold f_X6_init at h
  refine lv_aload_n hx hb dX6_init_0 rfl (lv_at hl 0 rfl) ?_
  refine nObj C ml_X6_3 hl.1 (Nat.le_of_ble_eq_true rfl) (Nat.le_of_ble_eq_true rfl) dX6_init_1 ?_
  refine lv_aload_n hx hb dX6_init_4 rfl (lv_at hl 0 rfl) ?_
  refine lv_iconst (v := 0) hx hb dX6_init_5 (by decide) ?_
  have s1 : o < n ∧ isO (ct o) 6 = true ∧ 0 < (fsOf (ct o)).length := Classical.byContradiction fun q9 => by rw [if_neg q9] at h; cases h
  rw [if_pos s1] at h
  refine nPut (cv := .inl (0)) C hN hS 0 s1.1 s1.2.1 s1.2.2 rfl inX6 tyX6_ok nmX6 (by decide) fl_X6_9 rfl (tyX6_ok 0 (by decide)) rfl rfl dX6_init_6 (fun H locs hN hS => ?_)
  have hN : WN g (n) (upC ct o (.inl (6, (fsOf (ct o)).set 0 (.inl (0))))) H := hN
  have h := letEC h
  generalize upC ct o (.inl (6, (fsOf (ct o)).set 0 (.inl (0)))) = ct2 at hN h
  refine lv_aload_n hx hb dX6_init_9 rfl (lv_at hl 0 rfl) ?_
  refine lv_iconst (v := 0) hx hb dX6_init_10 (by decide) ?_
  have s3 : o < n ∧ isO (ct2 o) 6 = true ∧ 1 < (fsOf (ct2 o)).length := Classical.byContradiction fun q9 => by rw [if_neg q9] at h; cases h
  rw [if_pos s3] at h
  refine nPut (cv := .inl (0)) C hN hS 1 s3.1 s3.2.1 s3.2.2 rfl inX6 tyX6_ok nmX6 (by decide) fl_X6_15 rfl (tyX6_ok 1 (by decide)) rfl rfl dX6_init_11 (fun H locs hN hS => ?_)
  have hN : WN g (n) (upC ct2 o (.inl (6, (fsOf (ct2 o)).set 1 (.inl (0))))) H := hN
  have h := letEC h
  generalize upC ct2 o (.inl (6, (fsOf (ct2 o)).set 1 (.inl (0)))) = ct4 at hN h
  cases h
  exact nEnd C hr hlk (Nat.le_of_ble_eq_true rfl) (Nat.le_of_ble_eq_true rfl) dX6_init_14 hN hS
def f_X5_init (n : Nat) (ct : CT) (o : Nat) : Option (Nat × CT) := (letC (upC ct n (.inl (6, [.inl 0, .inl 0]))) fun ct1 => (bnd2 (f_X6_init (n + 1) ct1 n) fun n2 ct3 => (if o < n2 ∧ isO (ct3 o) 5 = true ∧ 0 < (fsOf (ct3 o)).length then (letC (upC ct3 o (.inl (5, (fsOf (ct3 o)).set 0 (.inr (some n))))) fun ct6 => (if o < n2 ∧ isO (ct6 o) 5 = true ∧ 1 < (fsOf (ct6 o)).length then (letC (upC ct6 o (.inl (5, (fsOf (ct6 o)).set 1 (.inl (0))))) fun ct8 => some (n2, ct8)) else none)) else none)))
theorem kI_X5_init : IW yX5_init cX5_init 1 := ⟨co_X5_init, im_X5_init, in_X5, by decide +kernel, by decide +kernel, by decide +kernel, rfl⟩
set_option maxHeartbeats 4000000 in
set_option maxRecDepth 100000 in
theorem c_X5_init (l : Launch) (g : GD) (n : Nat) (ct : CT) (o : Nat) (n2 : Nat) (ct2 : CT) (h : f_X5_init n ct o = some (n2, ct2)) : Met l yX5_init (wm yX5_init cX5_init 1 none) (RN 2 44 1 2) (va_Pc [rf g o] (WNp g n ct)) (QN g n2 ct2) 1 2 (AU g) := by
  refine mkN (by decide +kernel) rfl (by decide) ?_
  intro p e s m below meth c C hX hin hr hlk hN hS ls hl
  have hx := C.1
  have hb := C.2.1
  unfold f_X5_init at h
  refine lv_aload_n hx hb dX5_init_0 rfl (lv_at hl 0 rfl) ?_
  refine nObj C ml_X5_3 hl.1 (Nat.le_of_ble_eq_true rfl) (Nat.le_of_ble_eq_true rfl) dX5_init_1 ?_
  refine lv_aload_n hx hb dX5_init_4 rfl (lv_at hl 0 rfl) ?_
  refine nNew (ty := tyX6) (ci := 6) C hN hS [.inl 0, .inl 0] inX6 tyX6_ok cl_X5_9 is_X6 in_X6 rfl (fun j hj => by rcases (show j = 0 ∨ j = 1 by omega) with rfl | rfl <;> rfl) ⟨Nat.le_of_ble_eq_true rfl, Nat.le_of_ble_eq_true rfl⟩ dX5_init_5 (fun H hN hS => ?_)
  have hN : WN g (n + 1) (upC ct n (.inl (6, [.inl 0, .inl 0]))) H := hN
  have h := letEC h
  generalize upC ct n (.inl (6, [.inl 0, .inl 0])) = ct1 at hN h
  refine lv_dup hx hb dX5_init_8 rfl ?_
  obtain ⟨n2, ct3, h4, h⟩ := bind2 h
  refine nBack (runIN (rest := [rf g (n), rf g (o)]) C hX hN hS (c_X6_init l g (n + 1) ct1 n _ _ h4) kI_X6_init ml_X5_11 hl.1 rfl (Nat.le_of_ble_eq_true rfl) ⟨Nat.le_of_ble_eq_true rfl, Nat.le_of_ble_eq_true rfl⟩ ⟨Nat.le_of_ble_eq_true rfl, Nat.le_of_ble_eq_true rfl⟩ dX5_init_9) hS (fun H locs hN hS => ?_)
  have s5 : o < n2 ∧ isO (ct3 o) 5 = true ∧ 0 < (fsOf (ct3 o)).length := Classical.byContradiction fun q9 => by rw [if_neg q9] at h; cases h
  rw [if_pos s5] at h
  refine nPutF (cv := .inr (some n)) C hN hS hin 0 s5.1 s5.2.1 s5.2.2 rfl inX5 tyX5_ok nmX5 (by decide) fl_X5_12 rfl rfl (tyX5_ok 0 (by decide)) rfl rfl dX5_init_12 (fun H locs hN hS => ?_)
  have hN : WN g (n2) (upC ct3 o (.inl (5, (fsOf (ct3 o)).set 0 (.inr (some n))))) H := hN
  have h := letEC h
  generalize upC ct3 o (.inl (5, (fsOf (ct3 o)).set 0 (.inr (some n)))) = ct6 at hN h
  refine lv_aload_n hx hb dX5_init_15 rfl (lv_at hl 0 rfl) ?_
  refine lv_iconst (v := 0) hx hb dX5_init_16 (by decide) ?_
  have s7 : o < n2 ∧ isO (ct6 o) 5 = true ∧ 1 < (fsOf (ct6 o)).length := Classical.byContradiction fun q9 => by rw [if_neg q9] at h; cases h
  rw [if_pos s7] at h
  refine nPut (cv := .inl (0)) C hN hS 1 s7.1 s7.2.1 s7.2.2 rfl inX5 tyX5_ok nmX5 (by decide) fl_X5_18 rfl (tyX5_ok 1 (by decide)) rfl rfl dX5_init_17 (fun H locs hN hS => ?_)
  have hN : WN g (n2) (upC ct6 o (.inl (5, (fsOf (ct6 o)).set 1 (.inl (0))))) H := hN
  have h := letEC h
  generalize upC ct6 o (.inl (5, (fsOf (ct6 o)).set 1 (.inl (0)))) = ct8 at hN h
  cases h
  exact nEnd C hr hlk (Nat.le_of_ble_eq_true rfl) (Nat.le_of_ble_eq_true rfl) dX5_init_20 hN hS
def f_X0_init (n : Nat) (ct : CT) (o : Nat) : Option (Nat × CT) := (letC (upC ct n (.inl (6, [.inl 0, .inl 0]))) fun ct1 => (bnd2 (f_X6_init (n + 1) ct1 n) fun n2 ct3 => (if o < n2 ∧ isO (ct3 o) 0 = true ∧ 0 < (fsOf (ct3 o)).length then (letC (upC ct3 o (.inl (0, (fsOf (ct3 o)).set 0 (.inr (some n))))) fun ct6 => (if o < n2 ∧ isO (ct6 o) 0 = true ∧ 1 < (fsOf (ct6 o)).length then (letC (upC ct6 o (.inl (0, (fsOf (ct6 o)).set 1 (.inl (0))))) fun ct8 => (if o < n2 ∧ isO (ct8 o) 0 = true ∧ 2 < (fsOf (ct8 o)).length then (letC (upC ct8 o (.inl (0, (fsOf (ct8 o)).set 2 (.inl (0))))) fun ct10 => (if o < n2 ∧ isO (ct10 o) 0 = true ∧ 3 < (fsOf (ct10 o)).length then (letC (upC ct10 o (.inl (0, (fsOf (ct10 o)).set 3 (.inl (0))))) fun ct12 => (if o < n2 ∧ isO (ct12 o) 0 = true ∧ 4 < (fsOf (ct12 o)).length then (letC (upC ct12 o (.inl (0, (fsOf (ct12 o)).set 4 (.inl (0))))) fun ct14 => (if o < n2 ∧ isO (ct14 o) 0 = true ∧ 5 < (fsOf (ct14 o)).length then (letC (upC ct14 o (.inl (0, (fsOf (ct14 o)).set 5 (.inl (0))))) fun ct16 => (if o < n2 ∧ isO (ct16 o) 0 = true ∧ 6 < (fsOf (ct16 o)).length then (letC (upC ct16 o (.inl (0, (fsOf (ct16 o)).set 6 (.inl (0))))) fun ct18 => some (n2, ct18)) else none)) else none)) else none)) else none)) else none)) else none)) else none)))
theorem kI_X0_init : IW yX0_init cX0_init 1 := ⟨co_X0_init, im_X0_init, in_X0, by decide +kernel, by decide +kernel, by decide +kernel, rfl⟩
set_option maxHeartbeats 4000000 in
set_option maxRecDepth 100000 in
theorem c_X0_init (l : Launch) (g : GD) (n : Nat) (ct : CT) (o : Nat) (n2 : Nat) (ct2 : CT) (h : f_X0_init n ct o = some (n2, ct2)) : Met l yX0_init (wm yX0_init cX0_init 1 none) (RN 2 44 1 2) (va_Pc [rf g o] (WNp g n ct)) (QN g n2 ct2) 1 2 (AU g) := by
  refine mkN (by decide +kernel) rfl (by decide) ?_
  intro p e s m below meth c C hX hin hr hlk hN hS ls hl
  have hx := C.1
  have hb := C.2.1
  unfold f_X0_init at h
  refine lv_aload_n hx hb dX0_init_0 rfl (lv_at hl 0 rfl) ?_
  refine nObj C ml_X0_3 hl.1 (Nat.le_of_ble_eq_true rfl) (Nat.le_of_ble_eq_true rfl) dX0_init_1 ?_
  refine lv_aload_n hx hb dX0_init_4 rfl (lv_at hl 0 rfl) ?_
  refine nNew (ty := tyX6) (ci := 6) C hN hS [.inl 0, .inl 0] inX6 tyX6_ok cl_X0_9 is_X6 in_X6 rfl (fun j hj => by rcases (show j = 0 ∨ j = 1 by omega) with rfl | rfl <;> rfl) ⟨Nat.le_of_ble_eq_true rfl, Nat.le_of_ble_eq_true rfl⟩ dX0_init_5 (fun H hN hS => ?_)
  have hN : WN g (n + 1) (upC ct n (.inl (6, [.inl 0, .inl 0]))) H := hN
  have h := letEC h
  generalize upC ct n (.inl (6, [.inl 0, .inl 0])) = ct1 at hN h
  refine lv_dup hx hb dX0_init_8 rfl ?_
  obtain ⟨n2, ct3, h4, h⟩ := bind2 h
  refine nBack (runIN (rest := [rf g (n), rf g (o)]) C hX hN hS (c_X6_init l g (n + 1) ct1 n _ _ h4) kI_X6_init ml_X0_11 hl.1 rfl (Nat.le_of_ble_eq_true rfl) ⟨Nat.le_of_ble_eq_true rfl, Nat.le_of_ble_eq_true rfl⟩ ⟨Nat.le_of_ble_eq_true rfl, Nat.le_of_ble_eq_true rfl⟩ dX0_init_9) hS (fun H locs hN hS => ?_)
  have s5 : o < n2 ∧ isO (ct3 o) 0 = true ∧ 0 < (fsOf (ct3 o)).length := Classical.byContradiction fun q9 => by rw [if_neg q9] at h; cases h
  rw [if_pos s5] at h
  refine nPutF (cv := .inr (some n)) C hN hS hin 0 s5.1 s5.2.1 s5.2.2 rfl inX0 tyX0_ok nmX0 (by decide) fl_X0_12 rfl rfl (tyX0_ok 0 (by decide)) rfl rfl dX0_init_12 (fun H locs hN hS => ?_)
  have hN : WN g (n2) (upC ct3 o (.inl (0, (fsOf (ct3 o)).set 0 (.inr (some n))))) H := hN
  have h := letEC h
  generalize upC ct3 o (.inl (0, (fsOf (ct3 o)).set 0 (.inr (some n)))) = ct6 at hN h
  refine lv_aload_n hx hb dX0_init_15 rfl (lv_at hl 0 rfl) ?_
  refine lv_iconst (v := 0) hx hb dX0_init_16 (by decide) ?_
  have s7 : o < n2 ∧ isO (ct6 o) 0 = true ∧ 1 < (fsOf (ct6 o)).length := Classical.byContradiction fun q9 => by rw [if_neg q9] at h; cases h
  rw [if_pos s7] at h
  refine nPut (cv := .inl (0)) C hN hS 1 s7.1 s7.2.1 s7.2.2 rfl inX0 tyX0_ok nmX0 (by decide) fl_X0_18 rfl (tyX0_ok 1 (by decide)) rfl rfl dX0_init_17 (fun H locs hN hS => ?_)
  have hN : WN g (n2) (upC ct6 o (.inl (0, (fsOf (ct6 o)).set 1 (.inl (0))))) H := hN
  have h := letEC h
  generalize upC ct6 o (.inl (0, (fsOf (ct6 o)).set 1 (.inl (0)))) = ct8 at hN h
  refine lv_aload_n hx hb dX0_init_20 rfl (lv_at hl 0 rfl) ?_
  refine lv_iconst (v := 0) hx hb dX0_init_21 (by decide) ?_
  have s9 : o < n2 ∧ isO (ct8 o) 0 = true ∧ 2 < (fsOf (ct8 o)).length := Classical.byContradiction fun q9 => by rw [if_neg q9] at h; cases h
  rw [if_pos s9] at h
  refine nPut (cv := .inl (0)) C hN hS 2 s9.1 s9.2.1 s9.2.2 rfl inX0 tyX0_ok nmX0 (by decide) fl_X0_22 rfl (tyX0_ok 2 (by decide)) rfl rfl dX0_init_22 (fun H locs hN hS => ?_)
  have hN : WN g (n2) (upC ct8 o (.inl (0, (fsOf (ct8 o)).set 2 (.inl (0))))) H := hN
  have h := letEC h
  generalize upC ct8 o (.inl (0, (fsOf (ct8 o)).set 2 (.inl (0)))) = ct10 at hN h
  refine lv_aload_n hx hb dX0_init_25 rfl (lv_at hl 0 rfl) ?_
  refine lv_iconst (v := 0) hx hb dX0_init_26 (by decide) ?_
  have s11 : o < n2 ∧ isO (ct10 o) 0 = true ∧ 3 < (fsOf (ct10 o)).length := Classical.byContradiction fun q9 => by rw [if_neg q9] at h; cases h
  rw [if_pos s11] at h
  refine nPut (cv := .inl (0)) C hN hS 3 s11.1 s11.2.1 s11.2.2 rfl inX0 tyX0_ok nmX0 (by decide) fl_X0_25 rfl (tyX0_ok 3 (by decide)) rfl rfl dX0_init_27 (fun H locs hN hS => ?_)
  have hN : WN g (n2) (upC ct10 o (.inl (0, (fsOf (ct10 o)).set 3 (.inl (0))))) H := hN
  have h := letEC h
  generalize upC ct10 o (.inl (0, (fsOf (ct10 o)).set 3 (.inl (0)))) = ct12 at hN h
  refine lv_aload_n hx hb dX0_init_30 rfl (lv_at hl 0 rfl) ?_
  refine lv_iconst (v := 0) hx hb dX0_init_31 (by decide) ?_
  have s13 : o < n2 ∧ isO (ct12 o) 0 = true ∧ 4 < (fsOf (ct12 o)).length := Classical.byContradiction fun q9 => by rw [if_neg q9] at h; cases h
  rw [if_pos s13] at h
  refine nPut (cv := .inl (0)) C hN hS 4 s13.1 s13.2.1 s13.2.2 rfl inX0 tyX0_ok nmX0 (by decide) fl_X0_28 rfl (tyX0_ok 4 (by decide)) rfl rfl dX0_init_32 (fun H locs hN hS => ?_)
  have hN : WN g (n2) (upC ct12 o (.inl (0, (fsOf (ct12 o)).set 4 (.inl (0))))) H := hN
  have h := letEC h
  generalize upC ct12 o (.inl (0, (fsOf (ct12 o)).set 4 (.inl (0)))) = ct14 at hN h
  refine lv_aload_n hx hb dX0_init_35 rfl (lv_at hl 0 rfl) ?_
  refine lv_iconst (v := 0) hx hb dX0_init_36 (by decide) ?_
  have s15 : o < n2 ∧ isO (ct14 o) 0 = true ∧ 5 < (fsOf (ct14 o)).length := Classical.byContradiction fun q9 => by rw [if_neg q9] at h; cases h
  rw [if_pos s15] at h
  refine nPut (cv := .inl (0)) C hN hS 5 s15.1 s15.2.1 s15.2.2 rfl inX0 tyX0_ok nmX0 (by decide) fl_X0_31 rfl (tyX0_ok 5 (by decide)) rfl rfl dX0_init_37 (fun H locs hN hS => ?_)
  have hN : WN g (n2) (upC ct14 o (.inl (0, (fsOf (ct14 o)).set 5 (.inl (0))))) H := hN
  have h := letEC h
  generalize upC ct14 o (.inl (0, (fsOf (ct14 o)).set 5 (.inl (0)))) = ct16 at hN h
  refine lv_aload_n hx hb dX0_init_40 rfl (lv_at hl 0 rfl) ?_
  refine lv_iconst (v := 0) hx hb dX0_init_41 (by decide) ?_
  have s17 : o < n2 ∧ isO (ct16 o) 0 = true ∧ 6 < (fsOf (ct16 o)).length := Classical.byContradiction fun q9 => by rw [if_neg q9] at h; cases h
  rw [if_pos s17] at h
  refine nPut (cv := .inl (0)) C hN hS 6 s17.1 s17.2.1 s17.2.2 rfl inX0 tyX0_ok nmX0 (by decide) fl_X0_34 rfl (tyX0_ok 6 (by decide)) rfl rfl dX0_init_42 (fun H locs hN hS => ?_)
  have hN : WN g (n2) (upC ct16 o (.inl (0, (fsOf (ct16 o)).set 6 (.inl (0))))) H := hN
  have h := letEC h
  generalize upC ct16 o (.inl (0, (fsOf (ct16 o)).set 6 (.inl (0)))) = ct18 at hN h
  cases h
  exact nEnd C hr hlk (Nat.le_of_ble_eq_true rfl) (Nat.le_of_ble_eq_true rfl) dX0_init_45 hN hS
def f_X7_init (n : Nat) (ct : CT) (o : Nat) : Option (Nat × CT) := (if o < n ∧ isO (ct o) 7 = true ∧ 0 < (fsOf (ct o)).length then (letC (upC ct o (.inl (7, (fsOf (ct o)).set 0 (.inl (0))))) fun ct2 => (if o < n ∧ isO (ct2 o) 7 = true ∧ 1 < (fsOf (ct2 o)).length then (letC (upC ct2 o (.inl (7, (fsOf (ct2 o)).set 1 (.inl (0))))) fun ct4 => (if o < n ∧ isO (ct4 o) 7 = true ∧ 2 < (fsOf (ct4 o)).length then (letC (upC ct4 o (.inl (7, (fsOf (ct4 o)).set 2 (.inl (0))))) fun ct6 => (if o < n ∧ isO (ct6 o) 7 = true ∧ 3 < (fsOf (ct6 o)).length then (letC (upC ct6 o (.inl (7, (fsOf (ct6 o)).set 3 (.inl (0))))) fun ct8 => some (n, ct8)) else none)) else none)) else none)) else none)
theorem kI_X7_init : IW yX7_init cX7_init 1 := ⟨co_X7_init, im_X7_init, in_X7, by decide +kernel, by decide +kernel, by decide +kernel, rfl⟩
set_option maxHeartbeats 4000000 in
set_option maxRecDepth 100000 in
theorem c_X7_init (l : Launch) (g : GD) (n : Nat) (ct : CT) (o : Nat) (n2 : Nat) (ct2 : CT) (h : f_X7_init n ct o = some (n2, ct2)) : Met l yX7_init (wm yX7_init cX7_init 1 none) (RN 1 24 0 0) (va_Pc [rf g o] (WNp g n ct)) (QN g n2 ct2) 0 0 (AU g) := by
  refine mkN (by decide +kernel) rfl (by decide) ?_
  intro p e s m below meth c C hX hin hr hlk hN hS ls hl
  have hx := C.1
  have hb := C.2.1
  unfold f_X7_init at h
  refine lv_aload_n hx hb dX7_init_0 rfl (lv_at hl 0 rfl) ?_
  refine nObj C ml_X7_3 hl.1 (Nat.le_of_ble_eq_true rfl) (Nat.le_of_ble_eq_true rfl) dX7_init_1 ?_
  refine lv_aload_n hx hb dX7_init_4 rfl (lv_at hl 0 rfl) ?_
  refine lv_iconst (v := 0) hx hb dX7_init_5 (by decide) ?_
  have s1 : o < n ∧ isO (ct o) 7 = true ∧ 0 < (fsOf (ct o)).length := Classical.byContradiction fun q9 => by rw [if_neg q9] at h; cases h
  rw [if_pos s1] at h
  refine nPut (cv := .inl (0)) C hN hS 0 s1.1 s1.2.1 s1.2.2 rfl inX7 tyX7_ok nmX7 (by decide) fl_X7_9 rfl (tyX7_ok 0 (by decide)) rfl rfl dX7_init_6 (fun H locs hN hS => ?_)
  have hN : WN g (n) (upC ct o (.inl (7, (fsOf (ct o)).set 0 (.inl (0))))) H := hN
  have h := letEC h
  generalize upC ct o (.inl (7, (fsOf (ct o)).set 0 (.inl (0)))) = ct2 at hN h
  refine lv_aload_n hx hb dX7_init_9 rfl (lv_at hl 0 rfl) ?_
  refine lv_iconst (v := 0) hx hb dX7_init_10 (by decide) ?_
  have s3 : o < n ∧ isO (ct2 o) 7 = true ∧ 1 < (fsOf (ct2 o)).length := Classical.byContradiction fun q9 => by rw [if_neg q9] at h; cases h
  rw [if_pos s3] at h
  refine nPut (cv := .inl (0)) C hN hS 1 s3.1 s3.2.1 s3.2.2 rfl inX7 tyX7_ok nmX7 (by decide) fl_X7_15 rfl (tyX7_ok 1 (by decide)) rfl rfl dX7_init_11 (fun H locs hN hS => ?_)
  have hN : WN g (n) (upC ct2 o (.inl (7, (fsOf (ct2 o)).set 1 (.inl (0))))) H := hN
  have h := letEC h
  generalize upC ct2 o (.inl (7, (fsOf (ct2 o)).set 1 (.inl (0)))) = ct4 at hN h
  refine lv_aload_n hx hb dX7_init_14 rfl (lv_at hl 0 rfl) ?_
  refine lv_iconst (v := 0) hx hb dX7_init_15 (by decide) ?_
  have s5 : o < n ∧ isO (ct4 o) 7 = true ∧ 2 < (fsOf (ct4 o)).length := Classical.byContradiction fun q9 => by rw [if_neg q9] at h; cases h
  rw [if_pos s5] at h
  refine nPut (cv := .inl (0)) C hN hS 2 s5.1 s5.2.1 s5.2.2 rfl inX7 tyX7_ok nmX7 (by decide) fl_X7_18 rfl (tyX7_ok 2 (by decide)) rfl rfl dX7_init_16 (fun H locs hN hS => ?_)
  have hN : WN g (n) (upC ct4 o (.inl (7, (fsOf (ct4 o)).set 2 (.inl (0))))) H := hN
  have h := letEC h
  generalize upC ct4 o (.inl (7, (fsOf (ct4 o)).set 2 (.inl (0)))) = ct6 at hN h
  refine lv_aload_n hx hb dX7_init_19 rfl (lv_at hl 0 rfl) ?_
  refine lv_iconst (v := 0) hx hb dX7_init_20 (by decide) ?_
  have s7 : o < n ∧ isO (ct6 o) 7 = true ∧ 3 < (fsOf (ct6 o)).length := Classical.byContradiction fun q9 => by rw [if_neg q9] at h; cases h
  rw [if_pos s7] at h
  refine nPut (cv := .inl (0)) C hN hS 3 s7.1 s7.2.1 s7.2.2 rfl inX7 tyX7_ok nmX7 (by decide) fl_X7_21 rfl (tyX7_ok 3 (by decide)) rfl rfl dX7_init_21 (fun H locs hN hS => ?_)
  have hN : WN g (n) (upC ct6 o (.inl (7, (fsOf (ct6 o)).set 3 (.inl (0))))) H := hN
  have h := letEC h
  generalize upC ct6 o (.inl (7, (fsOf (ct6 o)).set 3 (.inl (0)))) = ct8 at hN h
  cases h
  exact nEnd C hr hlk (Nat.le_of_ble_eq_true rfl) (Nat.le_of_ble_eq_true rfl) dX7_init_24 hN hS
def f_X4_init (n : Nat) (ct : CT) (o : Nat) : Option (Nat × CT) := (if o < n ∧ isO (ct o) 4 = true ∧ 0 < (fsOf (ct o)).length then (letC (upC ct o (.inl (4, (fsOf (ct o)).set 0 (.inl (0))))) fun ct2 => (if o < n ∧ isO (ct2 o) 4 = true ∧ 1 < (fsOf (ct2 o)).length then (letC (upC ct2 o (.inl (4, (fsOf (ct2 o)).set 1 (.inl (0))))) fun ct4 => (if o < n ∧ isO (ct4 o) 4 = true ∧ 2 < (fsOf (ct4 o)).length then (letC (upC ct4 o (.inl (4, (fsOf (ct4 o)).set 2 (.inl (1))))) fun ct6 => some (n, ct6)) else none)) else none)) else none)
theorem kI_X4_init : IW yX4_init cX4_init 1 := ⟨co_X4_init, im_X4_init, in_X4, by decide +kernel, by decide +kernel, by decide +kernel, rfl⟩
set_option maxHeartbeats 4000000 in
set_option maxRecDepth 100000 in
theorem c_X4_init (l : Launch) (g : GD) (n : Nat) (ct : CT) (o : Nat) (n2 : Nat) (ct2 : CT) (h : f_X4_init n ct o = some (n2, ct2)) : Met l yX4_init (wm yX4_init cX4_init 1 none) (RN 1 24 0 0) (va_Pc [rf g o] (WNp g n ct)) (QN g n2 ct2) 0 0 (AU g) := by
  refine mkN (by decide +kernel) rfl (by decide) ?_
  intro p e s m below meth c C hX hin hr hlk hN hS ls hl
  have hx := C.1
  have hb := C.2.1
  unfold f_X4_init at h
  refine lv_aload_n hx hb dX4_init_0 rfl (lv_at hl 0 rfl) ?_
  refine nObj C ml_X4_1 hl.1 (Nat.le_of_ble_eq_true rfl) (Nat.le_of_ble_eq_true rfl) dX4_init_1 ?_
  refine lv_aload_n hx hb dX4_init_4 rfl (lv_at hl 0 rfl) ?_
  refine lv_iconst (v := 0) hx hb dX4_init_5 (by decide) ?_
  have s1 : o < n ∧ isO (ct o) 4 = true ∧ 0 < (fsOf (ct o)).length := Classical.byContradiction fun q9 => by rw [if_neg q9] at h; cases h
  rw [if_pos s1] at h
  refine nPut (cv := .inl (0)) C hN hS 0 s1.1 s1.2.1 s1.2.2 rfl inX4 tyX4_ok nmX4 (by decide) fl_X4_7 rfl (tyX4_ok 0 (by decide)) rfl rfl dX4_init_6 (fun H locs hN hS => ?_)
  have hN : WN g (n) (upC ct o (.inl (4, (fsOf (ct o)).set 0 (.inl (0))))) H := hN
  have h := letEC h
  generalize upC ct o (.inl (4, (fsOf (ct o)).set 0 (.inl (0)))) = ct2 at hN h
  refine lv_aload_n hx hb dX4_init_9 rfl (lv_at hl 0 rfl) ?_
  refine lv_iconst (v := 0) hx hb dX4_init_10 (by decide) ?_
  have s3 : o < n ∧ isO (ct2 o) 4 = true ∧ 1 < (fsOf (ct2 o)).length := Classical.byContradiction fun q9 => by rw [if_neg q9] at h; cases h
  rw [if_pos s3] at h
  refine nPut (cv := .inl (0)) C hN hS 1 s3.1 s3.2.1 s3.2.2 rfl inX4 tyX4_ok nmX4 (by decide) fl_X4_13 rfl (tyX4_ok 1 (by decide)) rfl rfl dX4_init_11 (fun H locs hN hS => ?_)
  have hN : WN g (n) (upC ct2 o (.inl (4, (fsOf (ct2 o)).set 1 (.inl (0))))) H := hN
  have h := letEC h
  generalize upC ct2 o (.inl (4, (fsOf (ct2 o)).set 1 (.inl (0)))) = ct4 at hN h
  refine lv_aload_n hx hb dX4_init_14 rfl (lv_at hl 0 rfl) ?_
  refine lv_iconst (v := 1) hx hb dX4_init_15 (by decide) ?_
  have s5 : o < n ∧ isO (ct4 o) 4 = true ∧ 2 < (fsOf (ct4 o)).length := Classical.byContradiction fun q9 => by rw [if_neg q9] at h; cases h
  rw [if_pos s5] at h
  refine nPut (cv := .inl (1)) C hN hS 2 s5.1 s5.2.1 s5.2.2 rfl inX4 tyX4_ok nmX4 (by decide) fl_X4_16 rfl (tyX4_ok 2 (by decide)) rfl rfl dX4_init_16 (fun H locs hN hS => ?_)
  have hN : WN g (n) (upC ct4 o (.inl (4, (fsOf (ct4 o)).set 2 (.inl (1))))) H := hN
  have h := letEC h
  generalize upC ct4 o (.inl (4, (fsOf (ct4 o)).set 2 (.inl (1)))) = ct6 at hN h
  cases h
  exact nEnd C hr hlk (Nat.le_of_ble_eq_true rfl) (Nat.le_of_ble_eq_true rfl) dX4_init_19 hN hS
def lp_X2_init_20 (fu n : Nat) (ct : CT) (kc ks o : Nat) (z : Int32) : Option (Nat × CT) := match fu with
  | 0 => none
  | k + 1 => (if o < n ∧ isO (ct o) 2 = true then (bnd1 (getR (ct o) 0) fun q1002 => (if q1002 < n ∧ isR (ct q1002) 3 = true then (if (Int32.ofNat (lenOf (ct q1002)) : Int32) ≤ (z : Int32) then (if kc ≤ 25 ∧ ks ≤ 60 then some (n, ct) else none) else (if o < n ∧ isO (ct o) 2 = true then (bnd1 (getR (ct o) 0) fun q1008 => (if kc + 1 ≤ 25 ∧ ks + 2 ≤ 60 then (letC (upC ct n (.inl (5, [.inr none, .inl 0]))) fun ct1011 => (if kc + 1 + 1 ≤ 25 ∧ ks + 2 + 2 ≤ 60 then (bnd2 (f_X5_init (n + 1) ct1011 n) fun n1012 ct1013 => (if q1008 < n1012 ∧ isR (ct1013 q1008) 3 = true ∧ n < n1012 ∧ isO (ct1013 n) 5 = true ∧ vin (z) (lenOf (ct1013 q1008)) then (letC (upC ct1013 q1008 (.inr (3, lenOf (ct1013 q1008), .inr (va_up (rfOf (ct1013 q1008)) (z : Int32).toNatClampNeg (some n))))) fun ct1017 => (lp_X2_init_20 k n1012 ct1017 (kc + 1 + 1) (ks + 2 + 2) o (z + 1))) else none)) else none)) else none)) else none)) else none)) else none)
def f_X2_init (n : Nat) (ct : CT) (o : Nat) : Option (Nat × CT) := (letC (upC ct n (.inr (3, 12, .inr (fun _ => none)))) fun ct1 => (if o < (n + 1) ∧ isO (ct1 o) 2 = true ∧ 0 < (fsOf (ct1 o)).length then (letC (upC ct1 o (.inl (2, (fsOf (ct1 o)).set 0 (.inr (some n))))) fun ct3 => (if o < (n + 1) ∧ isO (ct3 o) 2 = true ∧ 1 < (fsOf (ct3 o)).length then (letC (upC ct3 o (.inl (2, (fsOf (ct3 o)).set 1 (.inl (0))))) fun ct5 => (lp_X2_init_20 FU (n + 1) ct5 (0 + 1) (0 + 12) o (0))) else none)) else none))
theorem kI_X2_init : IW yX2_init cX2_init 2 := ⟨co_X2_init, im_X2_init, in_X2, by decide +kernel, by decide +kernel, by decide +kernel, rfl⟩
set_option maxHeartbeats 4000000 in
set_option maxRecDepth 100000 in
theorem t_X2_init_20 (l : Launch) (g : GD) {p : Program} {e : Env} {s : State} {m : MethodId} {av : Array Value} {below : List Frame} {meth : Method} {c : Code} (o fu : Nat) : ∀ (n : Nat) (ct : CT) (kc ks : Nat) (z : Int32) (n2 : Nat) (ct2 : CT), lp_X2_init_20 fu n ct kc ks o z = some (n2, ct2) → CX p s m av c cX2_init 2 RX2 g → AXc g s s.heap → meth.name = "<init>" → meth.sig.returnType = none → meth.locks = false → ∀ (H : Heap) (locs : List Loc), WN g n ct H → sU g s H locs → ∀ ls : Array Slot, lv_has ls 2 [(0, rf g (o)), (1, .int (z))] → W p l e (RN 3 64 25 60) s m av below meth c H locs kc ks (MQ below (QN g n2 ct2) av s 25 60 (AU g)) (F0 m 20 ls []) := by
  induction fu with
  | zero => intro n ct kc ks z n2 ct2 h; cases h
  | succ k ih0 =>
    intro n ct kc ks z n2 ct2 h C hX hin hr hlk H locs hN hS ls hl
    have ih : ∀ (n : Nat) (ct : CT) (kc ks : Nat) (z : Int32), lp_X2_init_20 k n ct kc ks o z = some (n2, ct2) → ∀ (H : Heap) (locs : List Loc), WN g n ct H → sU g s H locs → ∀ ls : Array Slot, lv_has ls 2 [(0, rf g (o)), (1, .int (z))] → W p l e (RN 3 64 25 60) s m av below meth c H locs kc ks (MQ below (QN g n2 ct2) av s 25 60 (AU g)) (F0 m 20 ls []) := fun n ct kc ks z h H locs hN hS ls hl => ih0 n ct kc ks z n2 ct2 h C hX hin hr hlk H locs hN hS ls hl
    unfold lp_X2_init_20 at h
    try dsimp only at h
    have hx := C.1
    have hb := C.2.1
    refine lv_iload_n hx hb dX2_init_20 rfl (lv_at hl 1 rfl) ?_
    refine lv_aload_n hx hb dX2_init_21 rfl (lv_at hl 0 rfl) ?_
    have s1001 : o < n ∧ isO (ct o) 2 = true := Classical.byContradiction fun q9 => by rw [if_neg q9] at h; cases h
    rw [if_pos s1001] at h
    obtain ⟨q1002, h1003, h⟩ := bind1 h
    refine nGetR C hN 0 s1001.1 s1001.2 h1003 rfl inX2 (by decide) fl_X2_11 dX2_init_22 ?_
    have s1004 : q1002 < n ∧ isR (ct q1002) 3 = true := Classical.byContradiction fun q9 => by rw [if_neg q9] at h; cases h
    rw [if_pos s1004] at h
    refine nLenR C hN s1004.1 s1004.2 rfl dX2_init_25 ?_
    refine lv_icmp_ge (tgt := 48) hx hb dX2_init_26 (by decide) (fun c1005 => ?_) (fun c1005 => ?_)
    · rw [if_pos c1005] at h
      have s1006 : kc ≤ 25 ∧ ks ≤ 60 := Classical.byContradiction fun q9 => by rw [if_neg q9] at h; cases h
      rw [if_pos s1006] at h
      cases h
      exact nEnd C hr hlk s1006.1 s1006.2 dX2_init_48 hN hS
    · rw [if_neg c1005] at h
      refine lv_aload_n hx hb dX2_init_29 rfl (lv_at hl 0 rfl) ?_
      have s1007 : o < n ∧ isO (ct o) 2 = true := Classical.byContradiction fun q9 => by rw [if_neg q9] at h; cases h
      rw [if_pos s1007] at h
      obtain ⟨q1008, h1009, h⟩ := bind1 h
      refine nGetR C hN 0 s1007.1 s1007.2 h1009 rfl inX2 (by decide) fl_X2_11 dX2_init_30 ?_
      refine lv_iload_n hx hb dX2_init_33 rfl (lv_at hl 1 rfl) ?_
      have s1010 : kc + 1 ≤ 25 ∧ ks + 2 ≤ 60 := Classical.byContradiction fun q9 => by rw [if_neg q9] at h; cases h
      rw [if_pos s1010] at h
      refine nNew (ty := tyX5) (ci := 5) C hN hS [.inr none, .inl 0] inX5 tyX5_ok cl_X2_9 is_X5 in_X5 rfl (fun j hj => by rcases (show j = 0 ∨ j = 1 by omega) with rfl | rfl <;> rfl) s1010 dX2_init_34 (fun H hN hS => ?_)
      have hN : WN g (n + 1) (upC ct n (.inl (5, [.inr none, .inl 0]))) H := hN
      have h := letEC h
      generalize upC ct n (.inl (5, [.inr none, .inl 0])) = ct1011 at hN h
      refine lv_dup hx hb dX2_init_37 rfl ?_
      have s1015 : kc + 1 + 1 ≤ 25 ∧ ks + 2 + 2 ≤ 60 := Classical.byContradiction fun q9 => by rw [if_neg q9] at h; cases h
      rw [if_pos s1015] at h
      obtain ⟨n1012, ct1013, h1014, h⟩ := bind2 h
      refine nBack (runIN (rest := [rf g (n), .int (z), rf g (q1008)]) C hX hN hS (c_X5_init l g (n + 1) ct1011 n _ _ h1014) kI_X5_init ml_X2_21 hl.1 rfl (Nat.le_of_ble_eq_true rfl) ⟨Nat.le_of_ble_eq_true rfl, Nat.le_of_ble_eq_true rfl⟩ s1015 dX2_init_38) hS (fun H locs hN hS => ?_)
      have s1016 : q1008 < n1012 ∧ isR (ct1013 q1008) 3 = true ∧ n < n1012 ∧ isO (ct1013 n) 5 = true ∧ vin (z) (lenOf (ct1013 q1008)) := Classical.byContradiction fun q9 => by rw [if_neg q9] at h; cases h
      rw [if_pos s1016] at h
      refine nAst (j := 3) (ci := 5) C hN hS s1016.1 s1016.2.1 s1016.2.2.1 s1016.2.2.2.1 s1016.2.2.2.2 rfl rfl dX2_init_41 (fun H locs hN hS => ?_)
      have hN : WN g (n1012) (upC ct1013 q1008 (.inr (3, lenOf (ct1013 q1008), .inr (va_up (rfOf (ct1013 q1008)) (z : Int32).toNatClampNeg (some n))))) H := hN
      have h := letEC h
      generalize upC ct1013 q1008 (.inr (3, lenOf (ct1013 q1008), .inr (va_up (rfOf (ct1013 q1008)) (z : Int32).toNatClampNeg (some n)))) = ct1017 at hN h
      refine lv_iinc (v := z + 1) (lv' := [(1, .int (z + 1)), (0, rf g (o))]) hx hb dX2_init_42 hl (k := 1) rfl rfl (by decide) rfl (fun ls hl => ?_)
      refine lv_goto (tgt := 20) hx hb dX2_init_45 (by decide) ?_
      exact ih n1012 ct1017 (kc + 1 + 1) (ks + 2 + 2) (z + 1) h _ _ hN hS ls (lv_sub hl [1, 0] rfl)
set_option maxHeartbeats 4000000 in
set_option maxRecDepth 100000 in
theorem c_X2_init (l : Launch) (g : GD) (n : Nat) (ct : CT) (o : Nat) (n2 : Nat) (ct2 : CT) (h : f_X2_init n ct o = some (n2, ct2)) : Met l yX2_init (wm yX2_init cX2_init 2 none) (RN 3 64 25 60) (va_Pc [rf g o] (WNp g n ct)) (QN g n2 ct2) 25 60 (AU g) := by
  refine mkN (by decide +kernel) rfl (by decide) ?_
  intro p e s m below meth c C hX hin hr hlk hN hS ls hl
  have hx := C.1
  have hb := C.2.1
  unfold f_X2_init at h
  refine lv_aload_n hx hb dX2_init_0 rfl (lv_at hl 0 rfl) ?_
  refine nObj C ml_X2_3 hl.1 (Nat.le_of_ble_eq_true rfl) (Nat.le_of_ble_eq_true rfl) dX2_init_1 ?_
  refine lv_aload_n hx hb dX2_init_4 rfl (lv_at hl 0 rfl) ?_
  refine lv_bipush (v := 12) hx hb dX2_init_5 (by decide) ?_
  refine nNewQ (x := 12) (N := 12) C hN hS 3 cl_X2_9 hX.1.1.1 rfl (by decide) (by decide) (by decide) ⟨Nat.le_of_ble_eq_true rfl, Nat.le_of_ble_eq_true rfl⟩ dX2_init_7 (fun H hN hS => ?_)
  have hN : WN g (n + 1) (upC ct n (.inr (3, 12, .inr (fun _ => none)))) H := hN
  have h := letEC h
  generalize upC ct n (.inr (3, 12, .inr (fun _ => none))) = ct1 at hN h
  have s2 : o < (n + 1) ∧ isO (ct1 o) 2 = true ∧ 0 < (fsOf (ct1 o)).length := Classical.byContradiction fun q9 => by rw [if_neg q9] at h; cases h
  rw [if_pos s2] at h
  refine nPutF (cv := .inr (some n)) C hN hS hin 0 s2.1 s2.2.1 s2.2.2 rfl inX2 tyX2_ok nmX2 (by decide) fl_X2_11 rfl rfl (tyX2_ok 0 (by decide)) rfl rfl dX2_init_10 (fun H locs hN hS => ?_)
  have hN : WN g (n + 1) (upC ct1 o (.inl (2, (fsOf (ct1 o)).set 0 (.inr (some n))))) H := hN
  have h := letEC h
  generalize upC ct1 o (.inl (2, (fsOf (ct1 o)).set 0 (.inr (some n)))) = ct3 at hN h
  refine lv_aload_n hx hb dX2_init_13 rfl (lv_at hl 0 rfl) ?_
  refine lv_iconst (v := 0) hx hb dX2_init_14 (by decide) ?_
  have s4 : o < (n + 1) ∧ isO (ct3 o) 2 = true ∧ 1 < (fsOf (ct3 o)).length := Classical.byContradiction fun q9 => by rw [if_neg q9] at h; cases h
  rw [if_pos s4] at h
  refine nPut (cv := .inl (0)) C hN hS 1 s4.1 s4.2.1 s4.2.2 rfl inX2 tyX2_ok nmX2 (by decide) fl_X2_17 rfl (tyX2_ok 1 (by decide)) rfl rfl dX2_init_15 (fun H locs hN hS => ?_)
  have hN : WN g (n + 1) (upC ct3 o (.inl (2, (fsOf (ct3 o)).set 1 (.inl (0))))) H := hN
  have h := letEC h
  generalize upC ct3 o (.inl (2, (fsOf (ct3 o)).set 1 (.inl (0)))) = ct5 at hN h
  refine lv_iconst (v := 0) hx hb dX2_init_18 (by decide) ?_
  refine lv_istore_n (lv' := [(1, .int (0)), (0, rf g (o))]) hx hb dX2_init_19 rfl hl (by decide) rfl (fun ls hl => ?_)
  exact t_X2_init_20 l g o FU (n + 1) ct5 (0 + 1) (0 + 12) (0) _ _ h C hX hin hr hlk _ _ hN hS ls (lv_sub hl [1, 0] rfl)
def lp_X9_init_154 (fu n : Nat) (ct : CT) (kc ks o : Nat) (z : Int32) : Option (Nat × CT) := match fu with
  | 0 => none
  | k + 1 => (if o < n ∧ isO (ct o) 9 = true then (bnd1 (getR (ct o) 7) fun q2002 => (if q2002 < n ∧ isR (ct q2002) 5 = true then (if (Int32.ofNat (lenOf (ct q2002)) : Int32) ≤ (z : Int32) then (if kc ≤ 335 ∧ ks ≤ 1581 then some (n, ct) else none) else (if o < n ∧ isO (ct o) 9 = true then (bnd1 (getR (ct o) 7) fun q2008 => (if kc + 1 ≤ 335 ∧ ks + 4 ≤ 1581 then (letC (upC ct n (.inl (7, [.inl 0, .inl 0, .inl 0, .inl 0]))) fun ct2011 => (if kc + 1 + 0 ≤ 335 ∧ ks + 4 + 0 ≤ 1581 then (bnd2 (f_X7_init (n + 1) ct2011 n) fun n2012 ct2013 => (if q2008 < n2012 ∧ isR (ct2013 q2008) 5 = true ∧ n < n2012 ∧ isO (ct2013 n) 7 = true ∧ vin (z) (lenOf (ct2013 q2008)) then (letC (upC ct2013 q2008 (.inr (5, lenOf (ct2013 q2008), .inr (va_up (rfOf (ct2013 q2008)) (z : Int32).toNatClampNeg (some n))))) fun ct2017 => (lp_X9_init_154 k n2012 ct2017 (kc + 1 + 0) (ks + 4 + 0) o (z + 1))) else none)) else none)) else none)) else none)) else none)) else none)
def lp_X9_init_124 (fu n : Nat) (ct : CT) (kc ks o : Nat) (z : Int32) : Option (Nat × CT) := match fu with
  | 0 => none
  | k + 1 => (if o < n ∧ isO (ct o) 9 = true then (bnd1 (getR (ct o) 6) fun q1002 => (if q1002 < n ∧ isR (ct q1002) 4 = true then (if (Int32.ofNat (lenOf (ct q1002)) : Int32) ≤ (z : Int32) then (lp_X9_init_154 FU n ct kc ks o (0)) else (if o < n ∧ isO (ct o) 9 = true then (bnd1 (getR (ct o) 6) fun q1007 => (if kc + 1 ≤ 335 ∧ ks + 7 ≤ 1581 then (letC (upC ct n (.inl (0, [.inr none, .inl 0, .inl 0, .inl 0, .inl 0, .inl 0, .inl 0]))) fun ct1010 => (if kc + 1 + 1 ≤ 335 ∧ ks + 7 + 2 ≤ 1581 then (bnd2 (f_X0_init (n + 1) ct1010 n) fun n1011 ct1012 => (if q1007 < n1011 ∧ isR (ct1012 q1007) 4 = true ∧ n < n1011 ∧ isO (ct1012 n) 0 = true ∧ vin (z) (lenOf (ct1012 q1007)) then (letC (upC ct1012 q1007 (.inr (4, lenOf (ct1012 q1007), .inr (va_up (rfOf (ct1012 q1007)) (z : Int32).toNatClampNeg (some n))))) fun ct1016 => (lp_X9_init_124 k n1011 ct1016 (kc + 1 + 1) (ks + 7 + 2) o (z + 1))) else none)) else none)) else none)) else none)) else none)) else none)
def f_X9_init (n : Nat) (ct : CT) (o : Nat) : Option (Nat × CT) := (letC (upC ct n (.inl (6, [.inl 0, .inl 0]))) fun ct1 => (bnd2 (f_X6_init (n + 1) ct1 n) fun n2 ct3 => (if o < n2 ∧ isO (ct3 o) 9 = true ∧ 0 < (fsOf (ct3 o)).length then (letC (upC ct3 o (.inl (9, (fsOf (ct3 o)).set 0 (.inr (some n))))) fun ct6 => (letC (upC ct6 n2 (.inl (6, [.inl 0, .inl 0]))) fun ct7 => (bnd2 (f_X6_init (n2 + 1) ct7 n2) fun n8 ct9 => (if o < n8 ∧ isO (ct9 o) 9 = true ∧ 1 < (fsOf (ct9 o)).length then (letC (upC ct9 o (.inl (9, (fsOf (ct9 o)).set 1 (.inr (some n2))))) fun ct12 => (letC (upC ct12 n8 (.inl (6, [.inl 0, .inl 0]))) fun ct13 => (bnd2 (f_X6_init (n8 + 1) ct13 n8) fun n14 ct15 => (if o < n14 ∧ isO (ct15 o) 9 = true ∧ 2 < (fsOf (ct15 o)).length then (letC (upC ct15 o (.inl (9, (fsOf (ct15 o)).set 2 (.inr (some n8))))) fun ct18 => (letC (upC ct18 n14 (.inl (6, [.inl 0, .inl 0]))) fun ct19 => (bnd2 (f_X6_init (n14 + 1) ct19 n14) fun n20 ct21 => (if o < n20 ∧ isO (ct21 o) 9 = true ∧ 3 < (fsOf (ct21 o)).length then (letC (upC ct21 o (.inl (9, (fsOf (ct21 o)).set 3 (.inr (some n14))))) fun ct24 => (letC (upC ct24 n20 (.inl (2, [.inr none, .inl 0]))) fun ct25 => (bnd2 (f_X2_init (n20 + 1) ct25 n20) fun n26 ct27 => (if o < n26 ∧ isO (ct27 o) 9 = true ∧ 4 < (fsOf (ct27 o)).length then (letC (upC ct27 o (.inl (9, (fsOf (ct27 o)).set 4 (.inr (some n20))))) fun ct30 => (letC (upC ct30 n26 (.inr (0, 7, .inl sFirst))) fun ct31 => (if n26 < (n26 + 1) ∧ isI (ct31 n26) 0 = true then (if o < (n26 + 1) ∧ isO (ct31 o) 9 = true ∧ 5 < (fsOf (ct31 o)).length then (letC (upC ct31 o (.inl (9, (fsOf (ct31 o)).set 5 (.inr (some n26))))) fun ct34 => (letC (upC ct34 (n26 + 1) (.inr (4, 100, .inr (fun _ => none)))) fun ct35 => (if o < (n26 + 1 + 1) ∧ isO (ct35 o) 9 = true ∧ 6 < (fsOf (ct35 o)).length then (letC (upC ct35 o (.inl (9, (fsOf (ct35 o)).set 6 (.inr (some (n26 + 1)))))) fun ct37 => (letC (upC ct37 (n26 + 1 + 1) (.inr (5, 100, .inr (fun _ => none)))) fun ct38 => (if o < (n26 + 1 + 1 + 1) ∧ isO (ct38 o) 9 = true ∧ 7 < (fsOf (ct38 o)).length then (letC (upC ct38 o (.inl (9, (fsOf (ct38 o)).set 7 (.inr (some (n26 + 1 + 1)))))) fun ct40 => (if o < (n26 + 1 + 1 + 1) ∧ isO (ct40 o) 9 = true ∧ 8 < (fsOf (ct40 o)).length then (letC (upC ct40 o (.inl (9, (fsOf (ct40 o)).set 8 (.inl (0))))) fun ct42 => (if o < (n26 + 1 + 1 + 1) ∧ isO (ct42 o) 9 = true ∧ 9 < (fsOf (ct42 o)).length then (letC (upC ct42 o (.inl (9, (fsOf (ct42 o)).set 9 (.inl (0))))) fun ct44 => (letC (upC ct44 (n26 + 1 + 1 + 1) (.inl (6, [.inl 0, .inl 0]))) fun ct45 => (bnd2 (f_X6_init (n26 + 1 + 1 + 1 + 1) ct45 (n26 + 1 + 1 + 1)) fun n46 ct47 => (if o < n46 ∧ isO (ct47 o) 9 = true ∧ 10 < (fsOf (ct47 o)).length then (letC (upC ct47 o (.inl (9, (fsOf (ct47 o)).set 10 (.inr (some (n26 + 1 + 1 + 1)))))) fun ct50 => (letC (upC ct50 n46 (.inl (6, [.inl 0, .inl 0]))) fun ct51 => (bnd2 (f_X6_init (n46 + 1) ct51 n46) fun n52 ct53 => (if o < n52 ∧ isO (ct53 o) 9 = true ∧ 11 < (fsOf (ct53 o)).length then (letC (upC ct53 o (.inl (9, (fsOf (ct53 o)).set 11 (.inr (some n46))))) fun ct56 => (lp_X9_init_124 FU n52 ct56 (0 + 1 + 0 + 1 + 0 + 1 + 0 + 1 + 0 + 1 + 25 + 1 + 1 + 1 + 1 + 0 + 1 + 0) (0 + 2 + 0 + 2 + 0 + 2 + 0 + 2 + 0 + 2 + 60 + 7 + 100 + 100 + 2 + 0 + 2 + 0) o (0))) else none)))) else none)))) else none)) else none)) else none))) else none))) else none) else none))) else none)))) else none)))) else none)))) else none)))) else none)))
theorem kI_X9_init : IW yX9_init cX9_init 2 := ⟨co_X9_init, im_X9_init, in_X9, by decide +kernel, by decide +kernel, by decide +kernel, rfl⟩
set_option maxHeartbeats 4000000 in
set_option maxRecDepth 100000 in
theorem t_X9_init_154 (l : Launch) (g : GD) {p : Program} {e : Env} {s : State} {m : MethodId} {av : Array Value} {below : List Frame} {meth : Method} {c : Code} (o fu : Nat) : ∀ (n : Nat) (ct : CT) (kc ks : Nat) (z : Int32) (n2 : Nat) (ct2 : CT), lp_X9_init_154 fu n ct kc ks o z = some (n2, ct2) → CX p s m av c cX9_init 2 RX9 g → AXc g s s.heap → meth.name = "<init>" → meth.sig.returnType = none → meth.locks = false → ∀ (H : Heap) (locs : List Loc), WN g n ct H → sU g s H locs → ∀ ls : Array Slot, lv_has ls 2 [(0, rf g (o)), (1, .int (z))] → W p l e (RN 4 85 335 1581) s m av below meth c H locs kc ks (MQ below (QN g n2 ct2) av s 335 1581 (AU g)) (F0 m 154 ls []) := by
  induction fu with
  | zero => intro n ct kc ks z n2 ct2 h; cases h
  | succ k ih0 =>
    intro n ct kc ks z n2 ct2 h C hX hin hr hlk H locs hN hS ls hl
    have ih : ∀ (n : Nat) (ct : CT) (kc ks : Nat) (z : Int32), lp_X9_init_154 k n ct kc ks o z = some (n2, ct2) → ∀ (H : Heap) (locs : List Loc), WN g n ct H → sU g s H locs → ∀ ls : Array Slot, lv_has ls 2 [(0, rf g (o)), (1, .int (z))] → W p l e (RN 4 85 335 1581) s m av below meth c H locs kc ks (MQ below (QN g n2 ct2) av s 335 1581 (AU g)) (F0 m 154 ls []) := fun n ct kc ks z h H locs hN hS ls hl => ih0 n ct kc ks z n2 ct2 h C hX hin hr hlk H locs hN hS ls hl
    unfold lp_X9_init_154 at h
    try dsimp only at h
    have hx := C.1
    have hb := C.2.1
    refine lv_iload_n hx hb dX9_init_154 rfl (lv_at hl 1 rfl) ?_
    refine lv_aload_n hx hb dX9_init_155 rfl (lv_at hl 0 rfl) ?_
    have s2001 : o < n ∧ isO (ct o) 9 = true := Classical.byContradiction fun q9 => by rw [if_neg q9] at h; cases h
    rw [if_pos s2001] at h
    obtain ⟨q2002, h2003, h⟩ := bind1 h
    refine nGetR C hN 7 s2001.1 s2001.2 h2003 rfl inX9 (by decide) fl_X9_54 dX9_init_156 ?_
    have s2004 : q2002 < n ∧ isR (ct q2002) 5 = true := Classical.byContradiction fun q9 => by rw [if_neg q9] at h; cases h
    rw [if_pos s2004] at h
    refine nLenR C hN s2004.1 s2004.2 rfl dX9_init_159 ?_
    refine lv_icmp_ge (tgt := 182) hx hb dX9_init_160 (by decide) (fun c2005 => ?_) (fun c2005 => ?_)
    · rw [if_pos c2005] at h
      have s2006 : kc ≤ 335 ∧ ks ≤ 1581 := Classical.byContradiction fun q9 => by rw [if_neg q9] at h; cases h
      rw [if_pos s2006] at h
      cases h
      exact nEnd C hr hlk s2006.1 s2006.2 dX9_init_182 hN hS
    · rw [if_neg c2005] at h
      refine lv_aload_n hx hb dX9_init_163 rfl (lv_at hl 0 rfl) ?_
      have s2007 : o < n ∧ isO (ct o) 9 = true := Classical.byContradiction fun q9 => by rw [if_neg q9] at h; cases h
      rw [if_pos s2007] at h
      obtain ⟨q2008, h2009, h⟩ := bind1 h
      refine nGetR C hN 7 s2007.1 s2007.2 h2009 rfl inX9 (by decide) fl_X9_54 dX9_init_164 ?_
      refine lv_iload_n hx hb dX9_init_167 rfl (lv_at hl 1 rfl) ?_
      have s2010 : kc + 1 ≤ 335 ∧ ks + 4 ≤ 1581 := Classical.byContradiction fun q9 => by rw [if_neg q9] at h; cases h
      rw [if_pos s2010] at h
      refine nNew (ty := tyX7) (ci := 7) C hN hS [.inl 0, .inl 0, .inl 0, .inl 0] inX7 tyX7_ok cl_X9_52 is_X7 in_X7 rfl (fun j hj => by rcases (show j = 0 ∨ j = 1 ∨ j = 2 ∨ j = 3 by omega) with rfl | rfl | rfl | rfl <;> rfl) s2010 dX9_init_168 (fun H hN hS => ?_)
      have hN : WN g (n + 1) (upC ct n (.inl (7, [.inl 0, .inl 0, .inl 0, .inl 0]))) H := hN
      have h := letEC h
      generalize upC ct n (.inl (7, [.inl 0, .inl 0, .inl 0, .inl 0])) = ct2011 at hN h
      refine lv_dup hx hb dX9_init_171 rfl ?_
      have s2015 : kc + 1 + 0 ≤ 335 ∧ ks + 4 + 0 ≤ 1581 := Classical.byContradiction fun q9 => by rw [if_neg q9] at h; cases h
      rw [if_pos s2015] at h
      obtain ⟨n2012, ct2013, h2014, h⟩ := bind2 h
      refine nBack (runIN (rest := [rf g (n), .int (z), rf g (q2008)]) C hX hN hS (c_X7_init l g (n + 1) ct2011 n _ _ h2014) kI_X7_init ml_X9_72 hl.1 rfl (Nat.le_of_ble_eq_true rfl) ⟨Nat.le_of_ble_eq_true rfl, Nat.le_of_ble_eq_true rfl⟩ s2015 dX9_init_172) hS (fun H locs hN hS => ?_)
      have s2016 : q2008 < n2012 ∧ isR (ct2013 q2008) 5 = true ∧ n < n2012 ∧ isO (ct2013 n) 7 = true ∧ vin (z) (lenOf (ct2013 q2008)) := Classical.byContradiction fun q9 => by rw [if_neg q9] at h; cases h
      rw [if_pos s2016] at h
      refine nAst (j := 5) (ci := 7) C hN hS s2016.1 s2016.2.1 s2016.2.2.1 s2016.2.2.2.1 s2016.2.2.2.2 rfl rfl dX9_init_175 (fun H locs hN hS => ?_)
      have hN : WN g (n2012) (upC ct2013 q2008 (.inr (5, lenOf (ct2013 q2008), .inr (va_up (rfOf (ct2013 q2008)) (z : Int32).toNatClampNeg (some n))))) H := hN
      have h := letEC h
      generalize upC ct2013 q2008 (.inr (5, lenOf (ct2013 q2008), .inr (va_up (rfOf (ct2013 q2008)) (z : Int32).toNatClampNeg (some n)))) = ct2017 at hN h
      refine lv_iinc (v := z + 1) (lv' := [(1, .int (z + 1)), (0, rf g (o))]) hx hb dX9_init_176 hl (k := 1) rfl rfl (by decide) rfl (fun ls hl => ?_)
      refine lv_goto (tgt := 154) hx hb dX9_init_179 (by decide) ?_
      exact ih n2012 ct2017 (kc + 1 + 0) (ks + 4 + 0) (z + 1) h _ _ hN hS ls (lv_sub hl [1, 0] rfl)
set_option maxHeartbeats 4000000 in
set_option maxRecDepth 100000 in
theorem t_X9_init_124 (l : Launch) (g : GD) {p : Program} {e : Env} {s : State} {m : MethodId} {av : Array Value} {below : List Frame} {meth : Method} {c : Code} (o fu : Nat) : ∀ (n : Nat) (ct : CT) (kc ks : Nat) (z : Int32) (n2 : Nat) (ct2 : CT), lp_X9_init_124 fu n ct kc ks o z = some (n2, ct2) → CX p s m av c cX9_init 2 RX9 g → AXc g s s.heap → meth.name = "<init>" → meth.sig.returnType = none → meth.locks = false → ∀ (H : Heap) (locs : List Loc), WN g n ct H → sU g s H locs → ∀ ls : Array Slot, lv_has ls 2 [(0, rf g (o)), (1, .int (z))] → W p l e (RN 4 85 335 1581) s m av below meth c H locs kc ks (MQ below (QN g n2 ct2) av s 335 1581 (AU g)) (F0 m 124 ls []) := by
  induction fu with
  | zero => intro n ct kc ks z n2 ct2 h; cases h
  | succ k ih0 =>
    intro n ct kc ks z n2 ct2 h C hX hin hr hlk H locs hN hS ls hl
    have ih : ∀ (n : Nat) (ct : CT) (kc ks : Nat) (z : Int32), lp_X9_init_124 k n ct kc ks o z = some (n2, ct2) → ∀ (H : Heap) (locs : List Loc), WN g n ct H → sU g s H locs → ∀ ls : Array Slot, lv_has ls 2 [(0, rf g (o)), (1, .int (z))] → W p l e (RN 4 85 335 1581) s m av below meth c H locs kc ks (MQ below (QN g n2 ct2) av s 335 1581 (AU g)) (F0 m 124 ls []) := fun n ct kc ks z h H locs hN hS ls hl => ih0 n ct kc ks z n2 ct2 h C hX hin hr hlk H locs hN hS ls hl
    unfold lp_X9_init_124 at h
    try dsimp only at h
    have hx := C.1
    have hb := C.2.1
    refine lv_iload_n hx hb dX9_init_124 rfl (lv_at hl 1 rfl) ?_
    refine lv_aload_n hx hb dX9_init_125 rfl (lv_at hl 0 rfl) ?_
    have s1001 : o < n ∧ isO (ct o) 9 = true := Classical.byContradiction fun q9 => by rw [if_neg q9] at h; cases h
    rw [if_pos s1001] at h
    obtain ⟨q1002, h1003, h⟩ := bind1 h
    refine nGetR C hN 6 s1001.1 s1001.2 h1003 rfl inX9 (by decide) fl_X9_48 dX9_init_126 ?_
    have s1004 : q1002 < n ∧ isR (ct q1002) 4 = true := Classical.byContradiction fun q9 => by rw [if_neg q9] at h; cases h
    rw [if_pos s1004] at h
    refine nLenR C hN s1004.1 s1004.2 rfl dX9_init_129 ?_
    refine lv_icmp_ge (tgt := 152) hx hb dX9_init_130 (by decide) (fun c1005 => ?_) (fun c1005 => ?_)
    · rw [if_pos c1005] at h
      refine lv_iconst (v := 0) hx hb dX9_init_152 (by decide) ?_
      refine lv_istore_n (lv' := [(1, .int (0)), (0, rf g (o))]) hx hb dX9_init_153 rfl hl (by decide) rfl (fun ls hl => ?_)
      exact t_X9_init_154 l g o FU n ct kc ks (0) _ _ h C hX hin hr hlk _ _ hN hS ls (lv_sub hl [1, 0] rfl)
    · rw [if_neg c1005] at h
      refine lv_aload_n hx hb dX9_init_133 rfl (lv_at hl 0 rfl) ?_
      have s1006 : o < n ∧ isO (ct o) 9 = true := Classical.byContradiction fun q9 => by rw [if_neg q9] at h; cases h
      rw [if_pos s1006] at h
      obtain ⟨q1007, h1008, h⟩ := bind1 h
      refine nGetR C hN 6 s1006.1 s1006.2 h1008 rfl inX9 (by decide) fl_X9_48 dX9_init_134 ?_
      refine lv_iload_n hx hb dX9_init_137 rfl (lv_at hl 1 rfl) ?_
      have s1009 : kc + 1 ≤ 335 ∧ ks + 7 ≤ 1581 := Classical.byContradiction fun q9 => by rw [if_neg q9] at h; cases h
      rw [if_pos s1009] at h
      refine nNew (ty := tyX0) (ci := 0) C hN hS [.inr none, .inl 0, .inl 0, .inl 0, .inl 0, .inl 0, .inl 0] inX0 tyX0_ok cl_X9_46 is_X0 in_X0 rfl (fun j hj => by rcases (show j = 0 ∨ j = 1 ∨ j = 2 ∨ j = 3 ∨ j = 4 ∨ j = 5 ∨ j = 6 by omega) with rfl | rfl | rfl | rfl | rfl | rfl | rfl <;> rfl) s1009 dX9_init_138 (fun H hN hS => ?_)
      have hN : WN g (n + 1) (upC ct n (.inl (0, [.inr none, .inl 0, .inl 0, .inl 0, .inl 0, .inl 0, .inl 0]))) H := hN
      have h := letEC h
      generalize upC ct n (.inl (0, [.inr none, .inl 0, .inl 0, .inl 0, .inl 0, .inl 0, .inl 0])) = ct1010 at hN h
      refine lv_dup hx hb dX9_init_141 rfl ?_
      have s1014 : kc + 1 + 1 ≤ 335 ∧ ks + 7 + 2 ≤ 1581 := Classical.byContradiction fun q9 => by rw [if_neg q9] at h; cases h
      rw [if_pos s1014] at h
      obtain ⟨n1011, ct1012, h1013, h⟩ := bind2 h
      refine nBack (runIN (rest := [rf g (n), .int (z), rf g (q1007)]) C hX hN hS (c_X0_init l g (n + 1) ct1010 n _ _ h1013) kI_X0_init ml_X9_71 hl.1 rfl (Nat.le_of_ble_eq_true rfl) ⟨Nat.le_of_ble_eq_true rfl, Nat.le_of_ble_eq_true rfl⟩ s1014 dX9_init_142) hS (fun H locs hN hS => ?_)
      have s1015 : q1007 < n1011 ∧ isR (ct1012 q1007) 4 = true ∧ n < n1011 ∧ isO (ct1012 n) 0 = true ∧ vin (z) (lenOf (ct1012 q1007)) := Classical.byContradiction fun q9 => by rw [if_neg q9] at h; cases h
      rw [if_pos s1015] at h
      refine nAst (j := 4) (ci := 0) C hN hS s1015.1 s1015.2.1 s1015.2.2.1 s1015.2.2.2.1 s1015.2.2.2.2 rfl rfl dX9_init_145 (fun H locs hN hS => ?_)
      have hN : WN g (n1011) (upC ct1012 q1007 (.inr (4, lenOf (ct1012 q1007), .inr (va_up (rfOf (ct1012 q1007)) (z : Int32).toNatClampNeg (some n))))) H := hN
      have h := letEC h
      generalize upC ct1012 q1007 (.inr (4, lenOf (ct1012 q1007), .inr (va_up (rfOf (ct1012 q1007)) (z : Int32).toNatClampNeg (some n)))) = ct1016 at hN h
      refine lv_iinc (v := z + 1) (lv' := [(1, .int (z + 1)), (0, rf g (o))]) hx hb dX9_init_146 hl (k := 1) rfl rfl (by decide) rfl (fun ls hl => ?_)
      refine lv_goto (tgt := 124) hx hb dX9_init_149 (by decide) ?_
      exact ih n1011 ct1016 (kc + 1 + 1) (ks + 7 + 2) (z + 1) h _ _ hN hS ls (lv_sub hl [1, 0] rfl)
set_option maxHeartbeats 4000000 in
set_option maxRecDepth 100000 in
theorem c_X9_init (l : Launch) (g : GD) (n : Nat) (ct : CT) (o : Nat) (n2 : Nat) (ct2 : CT) (h : f_X9_init n ct o = some (n2, ct2)) : Met l yX9_init (wm yX9_init cX9_init 2 none) (RN 4 85 335 1581) (va_Pc [rf g o] (WNp g n ct)) (QN g n2 ct2) 335 1581 (AU g) := by
  refine mkN (by decide +kernel) rfl (by decide) ?_
  intro p e s m below meth c C hX hin hr hlk hN hS ls hl
  have hx := C.1
  have hb := C.2.1
  unfold f_X9_init at h
  refine lv_aload_n hx hb dX9_init_0 rfl (lv_at hl 0 rfl) ?_
  refine nObj C ml_X9_3 hl.1 (Nat.le_of_ble_eq_true rfl) (Nat.le_of_ble_eq_true rfl) dX9_init_1 ?_
  refine lv_aload_n hx hb dX9_init_4 rfl (lv_at hl 0 rfl) ?_
  refine nNew (ty := tyX6) (ci := 6) C hN hS [.inl 0, .inl 0] inX6 tyX6_ok cl_X9_9 is_X6 in_X6 rfl (fun j hj => by rcases (show j = 0 ∨ j = 1 by omega) with rfl | rfl <;> rfl) ⟨Nat.le_of_ble_eq_true rfl, Nat.le_of_ble_eq_true rfl⟩ dX9_init_5 (fun H hN hS => ?_)
  have hN : WN g (n + 1) (upC ct n (.inl (6, [.inl 0, .inl 0]))) H := hN
  have h := letEC h
  generalize upC ct n (.inl (6, [.inl 0, .inl 0])) = ct1 at hN h
  refine lv_dup hx hb dX9_init_8 rfl ?_
  obtain ⟨n2, ct3, h4, h⟩ := bind2 h
  refine nBack (runIN (rest := [rf g (n), rf g (o)]) C hX hN hS (c_X6_init l g (n + 1) ct1 n _ _ h4) kI_X6_init ml_X9_11 hl.1 rfl (Nat.le_of_ble_eq_true rfl) ⟨Nat.le_of_ble_eq_true rfl, Nat.le_of_ble_eq_true rfl⟩ ⟨Nat.le_of_ble_eq_true rfl, Nat.le_of_ble_eq_true rfl⟩ dX9_init_9) hS (fun H locs hN hS => ?_)
  have s5 : o < n2 ∧ isO (ct3 o) 9 = true ∧ 0 < (fsOf (ct3 o)).length := Classical.byContradiction fun q9 => by rw [if_neg q9] at h; cases h
  rw [if_pos s5] at h
  refine nPutF (cv := .inr (some n)) C hN hS hin 0 s5.1 s5.2.1 s5.2.2 rfl inX9 tyX9_ok nmX9 (by decide) fl_X9_12 rfl rfl (tyX9_ok 0 (by decide)) rfl rfl dX9_init_12 (fun H locs hN hS => ?_)
  have hN : WN g (n2) (upC ct3 o (.inl (9, (fsOf (ct3 o)).set 0 (.inr (some n))))) H := hN
  have h := letEC h
  generalize upC ct3 o (.inl (9, (fsOf (ct3 o)).set 0 (.inr (some n)))) = ct6 at hN h
  refine lv_aload_n hx hb dX9_init_15 rfl (lv_at hl 0 rfl) ?_
  refine nNew (ty := tyX6) (ci := 6) C hN hS [.inl 0, .inl 0] inX6 tyX6_ok cl_X9_9 is_X6 in_X6 rfl (fun j hj => by rcases (show j = 0 ∨ j = 1 by omega) with rfl | rfl <;> rfl) ⟨Nat.le_of_ble_eq_true rfl, Nat.le_of_ble_eq_true rfl⟩ dX9_init_16 (fun H hN hS => ?_)
  have hN : WN g (n2 + 1) (upC ct6 n2 (.inl (6, [.inl 0, .inl 0]))) H := hN
  have h := letEC h
  generalize upC ct6 n2 (.inl (6, [.inl 0, .inl 0])) = ct7 at hN h
  refine lv_dup hx hb dX9_init_19 rfl ?_
  obtain ⟨n8, ct9, h10, h⟩ := bind2 h
  refine nBack (runIN (rest := [rf g (n2), rf g (o)]) C hX hN hS (c_X6_init l g (n2 + 1) ct7 n2 _ _ h10) kI_X6_init ml_X9_11 hl.1 rfl (Nat.le_of_ble_eq_true rfl) ⟨Nat.le_of_ble_eq_true rfl, Nat.le_of_ble_eq_true rfl⟩ ⟨Nat.le_of_ble_eq_true rfl, Nat.le_of_ble_eq_true rfl⟩ dX9_init_20) hS (fun H locs hN hS => ?_)
  have s11 : o < n8 ∧ isO (ct9 o) 9 = true ∧ 1 < (fsOf (ct9 o)).length := Classical.byContradiction fun q9 => by rw [if_neg q9] at h; cases h
  rw [if_pos s11] at h
  refine nPutF (cv := .inr (some n2)) C hN hS hin 1 s11.1 s11.2.1 s11.2.2 rfl inX9 tyX9_ok nmX9 (by decide) fl_X9_18 rfl rfl (tyX9_ok 1 (by decide)) rfl rfl dX9_init_23 (fun H locs hN hS => ?_)
  have hN : WN g (n8) (upC ct9 o (.inl (9, (fsOf (ct9 o)).set 1 (.inr (some n2))))) H := hN
  have h := letEC h
  generalize upC ct9 o (.inl (9, (fsOf (ct9 o)).set 1 (.inr (some n2)))) = ct12 at hN h
  refine lv_aload_n hx hb dX9_init_26 rfl (lv_at hl 0 rfl) ?_
  refine nNew (ty := tyX6) (ci := 6) C hN hS [.inl 0, .inl 0] inX6 tyX6_ok cl_X9_9 is_X6 in_X6 rfl (fun j hj => by rcases (show j = 0 ∨ j = 1 by omega) with rfl | rfl <;> rfl) ⟨Nat.le_of_ble_eq_true rfl, Nat.le_of_ble_eq_true rfl⟩ dX9_init_27 (fun H hN hS => ?_)
  have hN : WN g (n8 + 1) (upC ct12 n8 (.inl (6, [.inl 0, .inl 0]))) H := hN
  have h := letEC h
  generalize upC ct12 n8 (.inl (6, [.inl 0, .inl 0])) = ct13 at hN h
  refine lv_dup hx hb dX9_init_30 rfl ?_
  obtain ⟨n14, ct15, h16, h⟩ := bind2 h
  refine nBack (runIN (rest := [rf g (n8), rf g (o)]) C hX hN hS (c_X6_init l g (n8 + 1) ct13 n8 _ _ h16) kI_X6_init ml_X9_11 hl.1 rfl (Nat.le_of_ble_eq_true rfl) ⟨Nat.le_of_ble_eq_true rfl, Nat.le_of_ble_eq_true rfl⟩ ⟨Nat.le_of_ble_eq_true rfl, Nat.le_of_ble_eq_true rfl⟩ dX9_init_31) hS (fun H locs hN hS => ?_)
  have s17 : o < n14 ∧ isO (ct15 o) 9 = true ∧ 2 < (fsOf (ct15 o)).length := Classical.byContradiction fun q9 => by rw [if_neg q9] at h; cases h
  rw [if_pos s17] at h
  refine nPutF (cv := .inr (some n8)) C hN hS hin 2 s17.1 s17.2.1 s17.2.2 rfl inX9 tyX9_ok nmX9 (by decide) fl_X9_21 rfl rfl (tyX9_ok 2 (by decide)) rfl rfl dX9_init_34 (fun H locs hN hS => ?_)
  have hN : WN g (n14) (upC ct15 o (.inl (9, (fsOf (ct15 o)).set 2 (.inr (some n8))))) H := hN
  have h := letEC h
  generalize upC ct15 o (.inl (9, (fsOf (ct15 o)).set 2 (.inr (some n8)))) = ct18 at hN h
  refine lv_aload_n hx hb dX9_init_37 rfl (lv_at hl 0 rfl) ?_
  refine nNew (ty := tyX6) (ci := 6) C hN hS [.inl 0, .inl 0] inX6 tyX6_ok cl_X9_9 is_X6 in_X6 rfl (fun j hj => by rcases (show j = 0 ∨ j = 1 by omega) with rfl | rfl <;> rfl) ⟨Nat.le_of_ble_eq_true rfl, Nat.le_of_ble_eq_true rfl⟩ dX9_init_38 (fun H hN hS => ?_)
  have hN : WN g (n14 + 1) (upC ct18 n14 (.inl (6, [.inl 0, .inl 0]))) H := hN
  have h := letEC h
  generalize upC ct18 n14 (.inl (6, [.inl 0, .inl 0])) = ct19 at hN h
  refine lv_dup hx hb dX9_init_41 rfl ?_
  obtain ⟨n20, ct21, h22, h⟩ := bind2 h
  refine nBack (runIN (rest := [rf g (n14), rf g (o)]) C hX hN hS (c_X6_init l g (n14 + 1) ct19 n14 _ _ h22) kI_X6_init ml_X9_11 hl.1 rfl (Nat.le_of_ble_eq_true rfl) ⟨Nat.le_of_ble_eq_true rfl, Nat.le_of_ble_eq_true rfl⟩ ⟨Nat.le_of_ble_eq_true rfl, Nat.le_of_ble_eq_true rfl⟩ dX9_init_42) hS (fun H locs hN hS => ?_)
  have s23 : o < n20 ∧ isO (ct21 o) 9 = true ∧ 3 < (fsOf (ct21 o)).length := Classical.byContradiction fun q9 => by rw [if_neg q9] at h; cases h
  rw [if_pos s23] at h
  refine nPutF (cv := .inr (some n14)) C hN hS hin 3 s23.1 s23.2.1 s23.2.2 rfl inX9 tyX9_ok nmX9 (by decide) fl_X9_24 rfl rfl (tyX9_ok 3 (by decide)) rfl rfl dX9_init_45 (fun H locs hN hS => ?_)
  have hN : WN g (n20) (upC ct21 o (.inl (9, (fsOf (ct21 o)).set 3 (.inr (some n14))))) H := hN
  have h := letEC h
  generalize upC ct21 o (.inl (9, (fsOf (ct21 o)).set 3 (.inr (some n14)))) = ct24 at hN h
  refine lv_aload_n hx hb dX9_init_48 rfl (lv_at hl 0 rfl) ?_
  refine nNew (ty := tyX2) (ci := 2) C hN hS [.inr none, .inl 0] inX2 tyX2_ok cl_X9_27 is_X2 in_X2 rfl (fun j hj => by rcases (show j = 0 ∨ j = 1 by omega) with rfl | rfl <;> rfl) ⟨Nat.le_of_ble_eq_true rfl, Nat.le_of_ble_eq_true rfl⟩ dX9_init_49 (fun H hN hS => ?_)
  have hN : WN g (n20 + 1) (upC ct24 n20 (.inl (2, [.inr none, .inl 0]))) H := hN
  have h := letEC h
  generalize upC ct24 n20 (.inl (2, [.inr none, .inl 0])) = ct25 at hN h
  refine lv_dup hx hb dX9_init_52 rfl ?_
  obtain ⟨n26, ct27, h28, h⟩ := bind2 h
  refine nBack (runI (rest := [rf g (n20), rf g (o)]) C hX hN hS (c_X2_init l g (n20 + 1) ct25 n20 _ _ h28) kI_X2_init ml_X9_29 hl.1 rfl (Nat.le_of_ble_eq_true rfl) ⟨Nat.le_of_ble_eq_true rfl, Nat.le_of_ble_eq_true rfl⟩ ⟨Nat.le_of_ble_eq_true rfl, Nat.le_of_ble_eq_true rfl⟩ dX9_init_53) hS (fun H locs hN hS => ?_)
  have s29 : o < n26 ∧ isO (ct27 o) 9 = true ∧ 4 < (fsOf (ct27 o)).length := Classical.byContradiction fun q9 => by rw [if_neg q9] at h; cases h
  rw [if_pos s29] at h
  refine nPutF (cv := .inr (some n20)) C hN hS hin 4 s29.1 s29.2.1 s29.2.2 rfl inX9 tyX9_ok nmX9 (by decide) fl_X9_30 rfl rfl (tyX9_ok 4 (by decide)) rfl rfl dX9_init_56 (fun H locs hN hS => ?_)
  have hN : WN g (n26) (upC ct27 o (.inl (9, (fsOf (ct27 o)).set 4 (.inr (some n20))))) H := hN
  have h := letEC h
  generalize upC ct27 o (.inl (9, (fsOf (ct27 o)).set 4 (.inr (some n20)))) = ct30 at hN h
  refine lv_aload_n hx hb dX9_init_59 rfl (lv_at hl 0 rfl) ?_
  refine nGs C hS fl_X9_34 dX9_init_60 ?_
  refine nClone (rest := [rf g (o)]) C hX hN hS hl.1 ml_X9_38 (Nat.le_of_ble_eq_true rfl) (Nat.le_of_ble_eq_true rfl) ⟨Nat.le_of_ble_eq_true rfl, Nat.le_of_ble_eq_true rfl⟩ dX9_init_63 (fun H hN hS => ?_)
  have hN : WN g (n26 + 1) (upC ct30 n26 (.inr (0, 7, .inl sFirst))) H := hN
  have h := letEC h
  generalize upC ct30 n26 (.inr (0, 7, .inl sFirst)) = ct31 at hN h
  have s32 : n26 < (n26 + 1) ∧ isI (ct31 n26) 0 = true := Classical.byContradiction fun q9 => by rw [if_neg q9] at h; cases h
  rw [if_pos s32] at h
  refine nCast C hX hN s32.1 s32.2 cl_X9_39 dX9_init_66 ?_
  have s33 : o < (n26 + 1) ∧ isO (ct31 o) 9 = true ∧ 5 < (fsOf (ct31 o)).length := Classical.byContradiction fun q9 => by rw [if_neg q9] at h; cases h
  rw [if_pos s33] at h
  refine nPutF (cv := .inr (some n26)) C hN hS hin 5 s33.1 s33.2.1 s33.2.2 rfl inX9 tyX9_ok nmX9 (by decide) fl_X9_43 rfl rfl (tyX9_ok 5 (by decide)) rfl rfl dX9_init_69 (fun H locs hN hS => ?_)
  have hN : WN g (n26 + 1) (upC ct31 o (.inl (9, (fsOf (ct31 o)).set 5 (.inr (some n26))))) H := hN
  have h := letEC h
  generalize upC ct31 o (.inl (9, (fsOf (ct31 o)).set 5 (.inr (some n26)))) = ct34 at hN h
  refine lv_aload_n hx hb dX9_init_72 rfl (lv_at hl 0 rfl) ?_
  refine lv_bipush (v := 100) hx hb dX9_init_73 (by decide) ?_
  refine nNewQ (x := 100) (N := 100) C hN hS 4 cl_X9_46 hX.1.1.2.1 rfl (by decide) (by decide) (by decide) ⟨Nat.le_of_ble_eq_true rfl, Nat.le_of_ble_eq_true rfl⟩ dX9_init_75 (fun H hN hS => ?_)
  have hN : WN g (n26 + 1 + 1) (upC ct34 (n26 + 1) (.inr (4, 100, .inr (fun _ => none)))) H := hN
  have h := letEC h
  generalize upC ct34 (n26 + 1) (.inr (4, 100, .inr (fun _ => none))) = ct35 at hN h
  have s36 : o < (n26 + 1 + 1) ∧ isO (ct35 o) 9 = true ∧ 6 < (fsOf (ct35 o)).length := Classical.byContradiction fun q9 => by rw [if_neg q9] at h; cases h
  rw [if_pos s36] at h
  refine nPutF (cv := .inr (some (n26 + 1))) C hN hS hin 6 s36.1 s36.2.1 s36.2.2 rfl inX9 tyX9_ok nmX9 (by decide) fl_X9_48 rfl rfl (tyX9_ok 6 (by decide)) rfl rfl dX9_init_78 (fun H locs hN hS => ?_)
  have hN : WN g (n26 + 1 + 1) (upC ct35 o (.inl (9, (fsOf (ct35 o)).set 6 (.inr (some (n26 + 1)))))) H := hN
  have h := letEC h
  generalize upC ct35 o (.inl (9, (fsOf (ct35 o)).set 6 (.inr (some (n26 + 1))))) = ct37 at hN h
  refine lv_aload_n hx hb dX9_init_81 rfl (lv_at hl 0 rfl) ?_
  refine lv_bipush (v := 100) hx hb dX9_init_82 (by decide) ?_
  refine nNewQ (x := 100) (N := 100) C hN hS 5 cl_X9_52 hX.1.1.2.2.1 rfl (by decide) (by decide) (by decide) ⟨Nat.le_of_ble_eq_true rfl, Nat.le_of_ble_eq_true rfl⟩ dX9_init_84 (fun H hN hS => ?_)
  have hN : WN g (n26 + 1 + 1 + 1) (upC ct37 (n26 + 1 + 1) (.inr (5, 100, .inr (fun _ => none)))) H := hN
  have h := letEC h
  generalize upC ct37 (n26 + 1 + 1) (.inr (5, 100, .inr (fun _ => none))) = ct38 at hN h
  have s39 : o < (n26 + 1 + 1 + 1) ∧ isO (ct38 o) 9 = true ∧ 7 < (fsOf (ct38 o)).length := Classical.byContradiction fun q9 => by rw [if_neg q9] at h; cases h
  rw [if_pos s39] at h
  refine nPutF (cv := .inr (some (n26 + 1 + 1))) C hN hS hin 7 s39.1 s39.2.1 s39.2.2 rfl inX9 tyX9_ok nmX9 (by decide) fl_X9_54 rfl rfl (tyX9_ok 7 (by decide)) rfl rfl dX9_init_87 (fun H locs hN hS => ?_)
  have hN : WN g (n26 + 1 + 1 + 1) (upC ct38 o (.inl (9, (fsOf (ct38 o)).set 7 (.inr (some (n26 + 1 + 1)))))) H := hN
  have h := letEC h
  generalize upC ct38 o (.inl (9, (fsOf (ct38 o)).set 7 (.inr (some (n26 + 1 + 1))))) = ct40 at hN h
  refine lv_aload_n hx hb dX9_init_90 rfl (lv_at hl 0 rfl) ?_
  refine lv_iconst (v := 0) hx hb dX9_init_91 (by decide) ?_
  have s41 : o < (n26 + 1 + 1 + 1) ∧ isO (ct40 o) 9 = true ∧ 8 < (fsOf (ct40 o)).length := Classical.byContradiction fun q9 => by rw [if_neg q9] at h; cases h
  rw [if_pos s41] at h
  refine nPut (cv := .inl (0)) C hN hS 8 s41.1 s41.2.1 s41.2.2 rfl inX9 tyX9_ok nmX9 (by decide) fl_X9_58 rfl (tyX9_ok 8 (by decide)) rfl rfl dX9_init_92 (fun H locs hN hS => ?_)
  have hN : WN g (n26 + 1 + 1 + 1) (upC ct40 o (.inl (9, (fsOf (ct40 o)).set 8 (.inl (0))))) H := hN
  have h := letEC h
  generalize upC ct40 o (.inl (9, (fsOf (ct40 o)).set 8 (.inl (0)))) = ct42 at hN h
  refine lv_aload_n hx hb dX9_init_95 rfl (lv_at hl 0 rfl) ?_
  refine lv_iconst (v := 0) hx hb dX9_init_96 (by decide) ?_
  have s43 : o < (n26 + 1 + 1 + 1) ∧ isO (ct42 o) 9 = true ∧ 9 < (fsOf (ct42 o)).length := Classical.byContradiction fun q9 => by rw [if_neg q9] at h; cases h
  rw [if_pos s43] at h
  refine nPut (cv := .inl (0)) C hN hS 9 s43.1 s43.2.1 s43.2.2 rfl inX9 tyX9_ok nmX9 (by decide) fl_X9_62 rfl (tyX9_ok 9 (by decide)) rfl rfl dX9_init_97 (fun H locs hN hS => ?_)
  have hN : WN g (n26 + 1 + 1 + 1) (upC ct42 o (.inl (9, (fsOf (ct42 o)).set 9 (.inl (0))))) H := hN
  have h := letEC h
  generalize upC ct42 o (.inl (9, (fsOf (ct42 o)).set 9 (.inl (0)))) = ct44 at hN h
  refine lv_aload_n hx hb dX9_init_100 rfl (lv_at hl 0 rfl) ?_
  refine nNew (ty := tyX6) (ci := 6) C hN hS [.inl 0, .inl 0] inX6 tyX6_ok cl_X9_9 is_X6 in_X6 rfl (fun j hj => by rcases (show j = 0 ∨ j = 1 by omega) with rfl | rfl <;> rfl) ⟨Nat.le_of_ble_eq_true rfl, Nat.le_of_ble_eq_true rfl⟩ dX9_init_101 (fun H hN hS => ?_)
  have hN : WN g (n26 + 1 + 1 + 1 + 1) (upC ct44 (n26 + 1 + 1 + 1) (.inl (6, [.inl 0, .inl 0]))) H := hN
  have h := letEC h
  generalize upC ct44 (n26 + 1 + 1 + 1) (.inl (6, [.inl 0, .inl 0])) = ct45 at hN h
  refine lv_dup hx hb dX9_init_104 rfl ?_
  obtain ⟨n46, ct47, h48, h⟩ := bind2 h
  refine nBack (runIN (rest := [rf g (n26 + 1 + 1 + 1), rf g (o)]) C hX hN hS (c_X6_init l g (n26 + 1 + 1 + 1 + 1) ct45 (n26 + 1 + 1 + 1) _ _ h48) kI_X6_init ml_X9_11 hl.1 rfl (Nat.le_of_ble_eq_true rfl) ⟨Nat.le_of_ble_eq_true rfl, Nat.le_of_ble_eq_true rfl⟩ ⟨Nat.le_of_ble_eq_true rfl, Nat.le_of_ble_eq_true rfl⟩ dX9_init_105) hS (fun H locs hN hS => ?_)
  have s49 : o < n46 ∧ isO (ct47 o) 9 = true ∧ 10 < (fsOf (ct47 o)).length := Classical.byContradiction fun q9 => by rw [if_neg q9] at h; cases h
  rw [if_pos s49] at h
  refine nPutF (cv := .inr (some (n26 + 1 + 1 + 1))) C hN hS hin 10 s49.1 s49.2.1 s49.2.2 rfl inX9 tyX9_ok nmX9 (by decide) fl_X9_65 rfl rfl (tyX9_ok 10 (by decide)) rfl rfl dX9_init_108 (fun H locs hN hS => ?_)
  have hN : WN g (n46) (upC ct47 o (.inl (9, (fsOf (ct47 o)).set 10 (.inr (some (n26 + 1 + 1 + 1)))))) H := hN
  have h := letEC h
  generalize upC ct47 o (.inl (9, (fsOf (ct47 o)).set 10 (.inr (some (n26 + 1 + 1 + 1))))) = ct50 at hN h
  refine lv_aload_n hx hb dX9_init_111 rfl (lv_at hl 0 rfl) ?_
  refine nNew (ty := tyX6) (ci := 6) C hN hS [.inl 0, .inl 0] inX6 tyX6_ok cl_X9_9 is_X6 in_X6 rfl (fun j hj => by rcases (show j = 0 ∨ j = 1 by omega) with rfl | rfl <;> rfl) ⟨Nat.le_of_ble_eq_true rfl, Nat.le_of_ble_eq_true rfl⟩ dX9_init_112 (fun H hN hS => ?_)
  have hN : WN g (n46 + 1) (upC ct50 n46 (.inl (6, [.inl 0, .inl 0]))) H := hN
  have h := letEC h
  generalize upC ct50 n46 (.inl (6, [.inl 0, .inl 0])) = ct51 at hN h
  refine lv_dup hx hb dX9_init_115 rfl ?_
  obtain ⟨n52, ct53, h54, h⟩ := bind2 h
  refine nBack (runIN (rest := [rf g (n46), rf g (o)]) C hX hN hS (c_X6_init l g (n46 + 1) ct51 n46 _ _ h54) kI_X6_init ml_X9_11 hl.1 rfl (Nat.le_of_ble_eq_true rfl) ⟨Nat.le_of_ble_eq_true rfl, Nat.le_of_ble_eq_true rfl⟩ ⟨Nat.le_of_ble_eq_true rfl, Nat.le_of_ble_eq_true rfl⟩ dX9_init_116) hS (fun H locs hN hS => ?_)
  have s55 : o < n52 ∧ isO (ct53 o) 9 = true ∧ 11 < (fsOf (ct53 o)).length := Classical.byContradiction fun q9 => by rw [if_neg q9] at h; cases h
  rw [if_pos s55] at h
  refine nPutF (cv := .inr (some n46)) C hN hS hin 11 s55.1 s55.2.1 s55.2.2 rfl inX9 tyX9_ok nmX9 (by decide) fl_X9_68 rfl rfl (tyX9_ok 11 (by decide)) rfl rfl dX9_init_119 (fun H locs hN hS => ?_)
  have hN : WN g (n52) (upC ct53 o (.inl (9, (fsOf (ct53 o)).set 11 (.inr (some n46))))) H := hN
  have h := letEC h
  generalize upC ct53 o (.inl (9, (fsOf (ct53 o)).set 11 (.inr (some n46)))) = ct56 at hN h
  refine lv_iconst (v := 0) hx hb dX9_init_122 (by decide) ?_
  refine lv_istore_n (lv' := [(1, .int (0)), (0, rf g (o))]) hx hb dX9_init_123 rfl hl (by decide) rfl (fun ls hl => ?_)
  exact t_X9_init_124 l g o FU n52 ct56 (0 + 1 + 0 + 1 + 0 + 1 + 0 + 1 + 0 + 1 + 25 + 1 + 1 + 1 + 1 + 0 + 1 + 0) (0 + 2 + 0 + 2 + 0 + 2 + 0 + 2 + 0 + 2 + 60 + 7 + 100 + 100 + 2 + 0 + 2 + 0) (0) _ _ h C hX hin hr hlk _ _ hN hS ls (lv_sub hl [1, 0] rfl)
def lp_X3_init_19 (fu n : Nat) (ct : CT) (kc ks o : Nat) (z : Int32) : Option (Nat × CT) := match fu with
  | 0 => none
  | k + 1 => (if o < n ∧ isO (ct o) 3 = true then (bnd1 (getR (ct o) 0) fun q1002 => (if q1002 < n ∧ isR (ct q1002) 6 = true then (if (Int32.ofNat (lenOf (ct q1002)) : Int32) ≤ (z : Int32) then (if kc ≤ 1345 ∧ ks ≤ 6376 then some (n, ct) else none) else (if o < n ∧ isO (ct o) 3 = true then (bnd1 (getR (ct o) 0) fun q1008 => (if kc + 1 ≤ 1345 ∧ ks + 12 ≤ 6376 then (letC (upC ct n (.inl (9, [.inr none, .inr none, .inr none, .inr none, .inr none, .inr none, .inr none, .inr none, .inl 0, .inl 0, .inr none, .inr none]))) fun ct1011 => (if kc + 1 + 335 ≤ 1345 ∧ ks + 12 + 1581 ≤ 6376 then (bnd2 (f_X9_init (n + 1) ct1011 n) fun n1012 ct1013 => (if q1008 < n1012 ∧ isR (ct1013 q1008) 6 = true ∧ n < n1012 ∧ isO (ct1013 n) 9 = true ∧ vin (z) (lenOf (ct1013 q1008)) then (letC (upC ct1013 q1008 (.inr (6, lenOf (ct1013 q1008), .inr (va_up (rfOf (ct1013 q1008)) (z : Int32).toNatClampNeg (some n))))) fun ct1017 => (lp_X3_init_19 k n1012 ct1017 (kc + 1 + 335) (ks + 12 + 1581) o (z + 1))) else none)) else none)) else none)) else none)) else none)) else none)
def f_X3_init (n : Nat) (ct : CT) (o : Nat) : Option (Nat × CT) := (letC (upC ct n (.inr (6, 4, .inr (fun _ => none)))) fun ct1 => (if o < (n + 1) ∧ isO (ct1 o) 3 = true ∧ 0 < (fsOf (ct1 o)).length then (letC (upC ct1 o (.inl (3, (fsOf (ct1 o)).set 0 (.inr (some n))))) fun ct3 => (if o < (n + 1) ∧ isO (ct3 o) 3 = true ∧ 1 < (fsOf (ct3 o)).length then (letC (upC ct3 o (.inl (3, (fsOf (ct3 o)).set 1 (.inl (0))))) fun ct5 => (lp_X3_init_19 FU (n + 1) ct5 (0 + 1) (0 + 4) o (0))) else none)) else none))
theorem kI_X3_init : IW yX3_init cX3_init 2 := ⟨co_X3_init, im_X3_init, in_X3, by decide +kernel, by decide +kernel, by decide +kernel, rfl⟩
set_option maxHeartbeats 4000000 in
set_option maxRecDepth 100000 in
theorem t_X3_init_19 (l : Launch) (g : GD) {p : Program} {e : Env} {s : State} {m : MethodId} {av : Array Value} {below : List Frame} {meth : Method} {c : Code} (o fu : Nat) : ∀ (n : Nat) (ct : CT) (kc ks : Nat) (z : Int32) (n2 : Nat) (ct2 : CT), lp_X3_init_19 fu n ct kc ks o z = some (n2, ct2) → CX p s m av c cX3_init 2 RX3 g → AXc g s s.heap → meth.name = "<init>" → meth.sig.returnType = none → meth.locks = false → ∀ (H : Heap) (locs : List Loc), WN g n ct H → sU g s H locs → ∀ ls : Array Slot, lv_has ls 2 [(0, rf g (o)), (1, .int (z))] → W p l e (RN 5 106 1345 6376) s m av below meth c H locs kc ks (MQ below (QN g n2 ct2) av s 1345 6376 (AU g)) (F0 m 19 ls []) := by
  induction fu with
  | zero => intro n ct kc ks z n2 ct2 h; cases h
  | succ k ih0 =>
    intro n ct kc ks z n2 ct2 h C hX hin hr hlk H locs hN hS ls hl
    have ih : ∀ (n : Nat) (ct : CT) (kc ks : Nat) (z : Int32), lp_X3_init_19 k n ct kc ks o z = some (n2, ct2) → ∀ (H : Heap) (locs : List Loc), WN g n ct H → sU g s H locs → ∀ ls : Array Slot, lv_has ls 2 [(0, rf g (o)), (1, .int (z))] → W p l e (RN 5 106 1345 6376) s m av below meth c H locs kc ks (MQ below (QN g n2 ct2) av s 1345 6376 (AU g)) (F0 m 19 ls []) := fun n ct kc ks z h H locs hN hS ls hl => ih0 n ct kc ks z n2 ct2 h C hX hin hr hlk H locs hN hS ls hl
    unfold lp_X3_init_19 at h
    try dsimp only at h
    have hx := C.1
    have hb := C.2.1
    refine lv_iload_n hx hb dX3_init_19 rfl (lv_at hl 1 rfl) ?_
    refine lv_aload_n hx hb dX3_init_20 rfl (lv_at hl 0 rfl) ?_
    have s1001 : o < n ∧ isO (ct o) 3 = true := Classical.byContradiction fun q9 => by rw [if_neg q9] at h; cases h
    rw [if_pos s1001] at h
    obtain ⟨q1002, h1003, h⟩ := bind1 h
    refine nGetR C hN 0 s1001.1 s1001.2 h1003 rfl inX3 (by decide) fl_X3_11 dX3_init_21 ?_
    have s1004 : q1002 < n ∧ isR (ct q1002) 6 = true := Classical.byContradiction fun q9 => by rw [if_neg q9] at h; cases h
    rw [if_pos s1004] at h
    refine nLenR C hN s1004.1 s1004.2 rfl dX3_init_24 ?_
    refine lv_icmp_ge (tgt := 47) hx hb dX3_init_25 (by decide) (fun c1005 => ?_) (fun c1005 => ?_)
    · rw [if_pos c1005] at h
      have s1006 : kc ≤ 1345 ∧ ks ≤ 6376 := Classical.byContradiction fun q9 => by rw [if_neg q9] at h; cases h
      rw [if_pos s1006] at h
      cases h
      exact nEnd C hr hlk s1006.1 s1006.2 dX3_init_47 hN hS
    · rw [if_neg c1005] at h
      refine lv_aload_n hx hb dX3_init_28 rfl (lv_at hl 0 rfl) ?_
      have s1007 : o < n ∧ isO (ct o) 3 = true := Classical.byContradiction fun q9 => by rw [if_neg q9] at h; cases h
      rw [if_pos s1007] at h
      obtain ⟨q1008, h1009, h⟩ := bind1 h
      refine nGetR C hN 0 s1007.1 s1007.2 h1009 rfl inX3 (by decide) fl_X3_11 dX3_init_29 ?_
      refine lv_iload_n hx hb dX3_init_32 rfl (lv_at hl 1 rfl) ?_
      have s1010 : kc + 1 ≤ 1345 ∧ ks + 12 ≤ 6376 := Classical.byContradiction fun q9 => by rw [if_neg q9] at h; cases h
      rw [if_pos s1010] at h
      refine nNew (ty := tyX9) (ci := 9) C hN hS [.inr none, .inr none, .inr none, .inr none, .inr none, .inr none, .inr none, .inr none, .inl 0, .inl 0, .inr none, .inr none] inX9 tyX9_ok cl_X3_9 is_X9 in_X9 rfl (fun j hj => by rcases (show j = 0 ∨ j = 1 ∨ j = 2 ∨ j = 3 ∨ j = 4 ∨ j = 5 ∨ j = 6 ∨ j = 7 ∨ j = 8 ∨ j = 9 ∨ j = 10 ∨ j = 11 by omega) with rfl | rfl | rfl | rfl | rfl | rfl | rfl | rfl | rfl | rfl | rfl | rfl <;> rfl) s1010 dX3_init_33 (fun H hN hS => ?_)
      have hN : WN g (n + 1) (upC ct n (.inl (9, [.inr none, .inr none, .inr none, .inr none, .inr none, .inr none, .inr none, .inr none, .inl 0, .inl 0, .inr none, .inr none]))) H := hN
      have h := letEC h
      generalize upC ct n (.inl (9, [.inr none, .inr none, .inr none, .inr none, .inr none, .inr none, .inr none, .inr none, .inl 0, .inl 0, .inr none, .inr none])) = ct1011 at hN h
      refine lv_dup hx hb dX3_init_36 rfl ?_
      have s1015 : kc + 1 + 335 ≤ 1345 ∧ ks + 12 + 1581 ≤ 6376 := Classical.byContradiction fun q9 => by rw [if_neg q9] at h; cases h
      rw [if_pos s1015] at h
      obtain ⟨n1012, ct1013, h1014, h⟩ := bind2 h
      refine nBack (runI (rest := [rf g (n), .int (z), rf g (q1008)]) C hX hN hS (c_X9_init l g (n + 1) ct1011 n _ _ h1014) kI_X9_init ml_X3_21 hl.1 rfl (Nat.le_of_ble_eq_true rfl) ⟨Nat.le_of_ble_eq_true rfl, Nat.le_of_ble_eq_true rfl⟩ s1015 dX3_init_37) hS (fun H locs hN hS => ?_)
      have s1016 : q1008 < n1012 ∧ isR (ct1013 q1008) 6 = true ∧ n < n1012 ∧ isO (ct1013 n) 9 = true ∧ vin (z) (lenOf (ct1013 q1008)) := Classical.byContradiction fun q9 => by rw [if_neg q9] at h; cases h
      rw [if_pos s1016] at h
      refine nAst (j := 6) (ci := 9) C hN hS s1016.1 s1016.2.1 s1016.2.2.1 s1016.2.2.2.1 s1016.2.2.2.2 rfl rfl dX3_init_40 (fun H locs hN hS => ?_)
      have hN : WN g (n1012) (upC ct1013 q1008 (.inr (6, lenOf (ct1013 q1008), .inr (va_up (rfOf (ct1013 q1008)) (z : Int32).toNatClampNeg (some n))))) H := hN
      have h := letEC h
      generalize upC ct1013 q1008 (.inr (6, lenOf (ct1013 q1008), .inr (va_up (rfOf (ct1013 q1008)) (z : Int32).toNatClampNeg (some n)))) = ct1017 at hN h
      refine lv_iinc (v := z + 1) (lv' := [(1, .int (z + 1)), (0, rf g (o))]) hx hb dX3_init_41 hl (k := 1) rfl rfl (by decide) rfl (fun ls hl => ?_)
      refine lv_goto (tgt := 19) hx hb dX3_init_44 (by decide) ?_
      exact ih n1012 ct1017 (kc + 1 + 335) (ks + 12 + 1581) (z + 1) h _ _ hN hS ls (lv_sub hl [1, 0] rfl)
set_option maxHeartbeats 4000000 in
set_option maxRecDepth 100000 in
theorem c_X3_init (l : Launch) (g : GD) (n : Nat) (ct : CT) (o : Nat) (n2 : Nat) (ct2 : CT) (h : f_X3_init n ct o = some (n2, ct2)) : Met l yX3_init (wm yX3_init cX3_init 2 none) (RN 5 106 1345 6376) (va_Pc [rf g o] (WNp g n ct)) (QN g n2 ct2) 1345 6376 (AU g) := by
  refine mkN (by decide +kernel) rfl (by decide) ?_
  intro p e s m below meth c C hX hin hr hlk hN hS ls hl
  have hx := C.1
  have hb := C.2.1
  unfold f_X3_init at h
  refine lv_aload_n hx hb dX3_init_0 rfl (lv_at hl 0 rfl) ?_
  refine nObj C ml_X3_3 hl.1 (Nat.le_of_ble_eq_true rfl) (Nat.le_of_ble_eq_true rfl) dX3_init_1 ?_
  refine lv_aload_n hx hb dX3_init_4 rfl (lv_at hl 0 rfl) ?_
  refine lv_iconst (v := 4) hx hb dX3_init_5 (by decide) ?_
  refine nNewQ (x := 4) (N := 4) C hN hS 6 cl_X3_9 hX.1.1.2.2.2.1 rfl (by decide) (by decide) (by decide) ⟨Nat.le_of_ble_eq_true rfl, Nat.le_of_ble_eq_true rfl⟩ dX3_init_6 (fun H hN hS => ?_)
  have hN : WN g (n + 1) (upC ct n (.inr (6, 4, .inr (fun _ => none)))) H := hN
  have h := letEC h
  generalize upC ct n (.inr (6, 4, .inr (fun _ => none))) = ct1 at hN h
  have s2 : o < (n + 1) ∧ isO (ct1 o) 3 = true ∧ 0 < (fsOf (ct1 o)).length := Classical.byContradiction fun q9 => by rw [if_neg q9] at h; cases h
  rw [if_pos s2] at h
  refine nPutF (cv := .inr (some n)) C hN hS hin 0 s2.1 s2.2.1 s2.2.2 rfl inX3 tyX3_ok nmX3 (by decide) fl_X3_11 rfl rfl (tyX3_ok 0 (by decide)) rfl rfl dX3_init_9 (fun H locs hN hS => ?_)
  have hN : WN g (n + 1) (upC ct1 o (.inl (3, (fsOf (ct1 o)).set 0 (.inr (some n))))) H := hN
  have h := letEC h
  generalize upC ct1 o (.inl (3, (fsOf (ct1 o)).set 0 (.inr (some n)))) = ct3 at hN h
  refine lv_aload_n hx hb dX3_init_12 rfl (lv_at hl 0 rfl) ?_
  refine lv_iconst (v := 0) hx hb dX3_init_13 (by decide) ?_
  have s4 : o < (n + 1) ∧ isO (ct3 o) 3 = true ∧ 1 < (fsOf (ct3 o)).length := Classical.byContradiction fun q9 => by rw [if_neg q9] at h; cases h
  rw [if_pos s4] at h
  refine nPut (cv := .inl (0)) C hN hS 1 s4.1 s4.2.1 s4.2.2 rfl inX3 tyX3_ok nmX3 (by decide) fl_X3_17 rfl (tyX3_ok 1 (by decide)) rfl rfl dX3_init_14 (fun H locs hN hS => ?_)
  have hN : WN g (n + 1) (upC ct3 o (.inl (3, (fsOf (ct3 o)).set 1 (.inl (0))))) H := hN
  have h := letEC h
  generalize upC ct3 o (.inl (3, (fsOf (ct3 o)).set 1 (.inl (0)))) = ct5 at hN h
  refine lv_iconst (v := 0) hx hb dX3_init_17 (by decide) ?_
  refine lv_istore_n (lv' := [(1, .int (0)), (0, rf g (o))]) hx hb dX3_init_18 rfl hl (by decide) rfl (fun ls hl => ?_)
  exact t_X3_init_19 l g o FU (n + 1) ct5 (0 + 1) (0 + 4) (0) _ _ h C hX hin hr hlk _ _ hN hS ls (lv_sub hl [1, 0] rfl)
def f_X8_init (n : Nat) (ct : CT) (o : Nat) : Option (Nat × CT) := (letC (upC ct n (.inr (0, 12, .inl (fun _ => 0)))) fun ct1 => (if o < (n + 1) ∧ isO (ct1 o) 8 = true ∧ 0 < (fsOf (ct1 o)).length then (letC (upC ct1 o (.inl (8, (fsOf (ct1 o)).set 0 (.inr (some n))))) fun ct3 => (letC (upC ct3 (n + 1) (.inr (0, 4096, .inl (fun _ => 0)))) fun ct4 => (if o < (n + 1 + 1) ∧ isO (ct4 o) 8 = true ∧ 1 < (fsOf (ct4 o)).length then (letC (upC ct4 o (.inl (8, (fsOf (ct4 o)).set 1 (.inr (some (n + 1)))))) fun ct6 => (if o < (n + 1 + 1) ∧ isO (ct6 o) 8 = true ∧ 2 < (fsOf (ct6 o)).length then (letC (upC ct6 o (.inl (8, (fsOf (ct6 o)).set 2 (.inl (0))))) fun ct8 => some (n + 1 + 1, ct8)) else none)) else none))) else none))
theorem kI_X8_init : IW yX8_init cX8_init 1 := ⟨co_X8_init, im_X8_init, in_X8, by decide +kernel, by decide +kernel, by decide +kernel, rfl⟩
set_option maxHeartbeats 4000000 in
set_option maxRecDepth 100000 in
theorem c_X8_init (l : Launch) (g : GD) (n : Nat) (ct : CT) (o : Nat) (n2 : Nat) (ct2 : CT) (h : f_X8_init n ct o = some (n2, ct2)) : Met l yX8_init (wm yX8_init cX8_init 1 none) (RN 1 24 2 4108) (va_Pc [rf g o] (WNp g n ct)) (QN g n2 ct2) 2 4108 (AU g) := by
  refine mkN (by decide +kernel) rfl (by decide) ?_
  intro p e s m below meth c C hX hin hr hlk hN hS ls hl
  have hx := C.1
  have hb := C.2.1
  unfold f_X8_init at h
  refine lv_aload_n hx hb dX8_init_0 rfl (lv_at hl 0 rfl) ?_
  refine nObj C ml_X8_3 hl.1 (Nat.le_of_ble_eq_true rfl) (Nat.le_of_ble_eq_true rfl) dX8_init_1 ?_
  refine lv_aload_n hx hb dX8_init_4 rfl (lv_at hl 0 rfl) ?_
  refine lv_bipush (v := 12) hx hb dX8_init_5 (by decide) ?_
  refine nNewA (atype := .int) (x := 12) (N := 12) C hN hS 0 ac_int rfl rfl rfl rfl (by decide) (by decide) (by decide) ⟨Nat.le_of_ble_eq_true rfl, Nat.le_of_ble_eq_true rfl⟩ dX8_init_7 (fun cA q9 => Option.some.inj (q9.symm.trans hX.2.2.1)) (fun H hN hS => ?_)
  have hN : WN g (n + 1) (upC ct n (.inr (0, 12, .inl (fun _ => 0)))) H := hN
  have h := letEC h
  generalize upC ct n (.inr (0, 12, .inl (fun _ => 0))) = ct1 at hN h
  have s2 : o < (n + 1) ∧ isO (ct1 o) 8 = true ∧ 0 < (fsOf (ct1 o)).length := Classical.byContradiction fun q9 => by rw [if_neg q9] at h; cases h
  rw [if_pos s2] at h
  refine nPutF (cv := .inr (some n)) C hN hS hin 0 s2.1 s2.2.1 s2.2.2 rfl inX8 tyX8_ok nmX8 (by decide) fl_X8_9 rfl rfl (tyX8_ok 0 (by decide)) rfl rfl dX8_init_9 (fun H locs hN hS => ?_)
  have hN : WN g (n + 1) (upC ct1 o (.inl (8, (fsOf (ct1 o)).set 0 (.inr (some n))))) H := hN
  have h := letEC h
  generalize upC ct1 o (.inl (8, (fsOf (ct1 o)).set 0 (.inr (some n)))) = ct3 at hN h
  refine lv_aload_n hx hb dX8_init_12 rfl (lv_at hl 0 rfl) ?_
  refine lv_sipush (v := 4096) hx hb dX8_init_13 (by decide) ?_
  refine nNewA (atype := .int) (x := 4096) (N := 4096) C hN hS 0 ac_int rfl rfl rfl rfl (by decide) (by decide) (by decide) ⟨Nat.le_of_ble_eq_true rfl, Nat.le_of_ble_eq_true rfl⟩ dX8_init_16 (fun cA q9 => Option.some.inj (q9.symm.trans hX.2.2.1)) (fun H hN hS => ?_)
  have hN : WN g (n + 1 + 1) (upC ct3 (n + 1) (.inr (0, 4096, .inl (fun _ => 0)))) H := hN
  have h := letEC h
  generalize upC ct3 (n + 1) (.inr (0, 4096, .inl (fun _ => 0))) = ct4 at hN h
  have s5 : o < (n + 1 + 1) ∧ isO (ct4 o) 8 = true ∧ 1 < (fsOf (ct4 o)).length := Classical.byContradiction fun q9 => by rw [if_neg q9] at h; cases h
  rw [if_pos s5] at h
  refine nPutF (cv := .inr (some (n + 1))) C hN hS hin 1 s5.1 s5.2.1 s5.2.2 rfl inX8 tyX8_ok nmX8 (by decide) fl_X8_15 rfl rfl (tyX8_ok 1 (by decide)) rfl rfl dX8_init_18 (fun H locs hN hS => ?_)
  have hN : WN g (n + 1 + 1) (upC ct4 o (.inl (8, (fsOf (ct4 o)).set 1 (.inr (some (n + 1)))))) H := hN
  have h := letEC h
  generalize upC ct4 o (.inl (8, (fsOf (ct4 o)).set 1 (.inr (some (n + 1))))) = ct6 at hN h
  refine lv_aload_n hx hb dX8_init_21 rfl (lv_at hl 0 rfl) ?_
  refine lv_iconst (v := 0) hx hb dX8_init_22 (by decide) ?_
  have s7 : o < (n + 1 + 1) ∧ isO (ct6 o) 8 = true ∧ 2 < (fsOf (ct6 o)).length := Classical.byContradiction fun q9 => by rw [if_neg q9] at h; cases h
  rw [if_pos s7] at h
  refine nPut (cv := .inl (0)) C hN hS 2 s7.1 s7.2.1 s7.2.2 rfl inX8 tyX8_ok nmX8 (by decide) fl_X8_18 rfl (tyX8_ok 2 (by decide)) rfl rfl dX8_init_23 (fun H locs hN hS => ?_)
  have hN : WN g (n + 1 + 1) (upC ct6 o (.inl (8, (fsOf (ct6 o)).set 2 (.inl (0))))) H := hN
  have h := letEC h
  generalize upC ct6 o (.inl (8, (fsOf (ct6 o)).set 2 (.inl (0)))) = ct8 at hN h
  cases h
  exact nEnd C hr hlk (Nat.le_of_ble_eq_true rfl) (Nat.le_of_ble_eq_true rfl) dX8_init_26 hN hS
def lp_X1_init_80 (fu n : Nat) (ct : CT) (kc ks o : Nat) (z : Int32) : Option (Nat × CT) := match fu with
  | 0 => none
  | k + 1 => (if o < n ∧ isO (ct o) 1 = true then (bnd1 (getR (ct o) 4) fun q1002 => (if q1002 < n ∧ isR (ct q1002) 7 = true then (if (Int32.ofNat (lenOf (ct q1002)) : Int32) ≤ (z : Int32) then (if kc ≤ 9 ∧ ks ≤ 128 then some (n, ct) else none) else (if o < n ∧ isO (ct o) 1 = true then (bnd1 (getR (ct o) 4) fun q1008 => (if kc + 1 ≤ 9 ∧ ks + 3 ≤ 128 then (letC (upC ct n (.inl (4, [.inl 0, .inl 0, .inl 0]))) fun ct1011 => (if kc + 1 + 0 ≤ 9 ∧ ks + 3 + 0 ≤ 128 then (bnd2 (f_X4_init (n + 1) ct1011 n) fun n1012 ct1013 => (if q1008 < n1012 ∧ isR (ct1013 q1008) 7 = true ∧ n < n1012 ∧ isO (ct1013 n) 4 = true ∧ vin (z) (lenOf (ct1013 q1008)) then (letC (upC ct1013 q1008 (.inr (7, lenOf (ct1013 q1008), .inr (va_up (rfOf (ct1013 q1008)) (z : Int32).toNatClampNeg (some n))))) fun ct1017 => (lp_X1_init_80 k n1012 ct1017 (kc + 1 + 0) (ks + 3 + 0) o (z + 1))) else none)) else none)) else none)) else none)) else none)) else none)
def f_X1_init (n : Nat) (ct : CT) (o : Nat) : Option (Nat × CT) := (if o < n ∧ isO (ct o) 1 = true ∧ 0 < (fsOf (ct o)).length then (letC (upC ct o (.inl (1, (fsOf (ct o)).set 0 (.inl (0))))) fun ct2 => (if o < n ∧ isO (ct2 o) 1 = true ∧ 1 < (fsOf (ct2 o)).length then (letC (upC ct2 o (.inl (1, (fsOf (ct2 o)).set 1 (.inl (0))))) fun ct4 => (if o < n ∧ isO (ct4 o) 1 = true ∧ 2 < (fsOf (ct4 o)).length then (letC (upC ct4 o (.inl (1, (fsOf (ct4 o)).set 2 (.inl (0))))) fun ct6 => (letC (upC ct6 n (.inl (4, [.inl 0, .inl 0, .inl 0]))) fun ct7 => (bnd2 (f_X4_init (n + 1) ct7 n) fun n8 ct9 => (if o < n8 ∧ isO (ct9 o) 1 = true ∧ 3 < (fsOf (ct9 o)).length then (letC (upC ct9 o (.inl (1, (fsOf (ct9 o)).set 3 (.inr (some n))))) fun ct12 => (letC (upC ct12 n8 (.inr (7, 5, .inr (fun _ => none)))) fun ct13 => (if o < (n8 + 1) ∧ isO (ct13 o) 1 = true ∧ 4 < (fsOf (ct13 o)).length then (letC (upC ct13 o (.inl (1, (fsOf (ct13 o)).set 4 (.inr (some n8))))) fun ct15 => (letC (upC ct15 (n8 + 1) (.inr (2, 5, .inl (fun _ => 0)))) fun ct16 => (if o < (n8 + 1 + 1) ∧ isO (ct16 o) 1 = true ∧ 5 < (fsOf (ct16 o)).length then (letC (upC ct16 o (.inl (1, (fsOf (ct16 o)).set 5 (.inr (some (n8 + 1)))))) fun ct18 => (if o < (n8 + 1 + 1) ∧ isO (ct18 o) 1 = true ∧ 6 < (fsOf (ct18 o)).length then (letC (upC ct18 o (.inl (1, (fsOf (ct18 o)).set 6 (.inl (0))))) fun ct20 => (letC (upC ct20 (n8 + 1 + 1) (.inr (0, 100, .inl (fun _ => 0)))) fun ct21 => (if o < (n8 + 1 + 1 + 1) ∧ isO (ct21 o) 1 = true ∧ 7 < (fsOf (ct21 o)).length then (letC (upC ct21 o (.inl (1, (fsOf (ct21 o)).set 7 (.inr (some (n8 + 1 + 1)))))) fun ct23 => (if o < (n8 + 1 + 1 + 1) ∧ isO (ct23 o) 1 = true ∧ 8 < (fsOf (ct23 o)).length then (letC (upC ct23 o (.inl (1, (fsOf (ct23 o)).set 8 (.inl (0))))) fun ct25 => (if o < (n8 + 1 + 1 + 1) ∧ isO (ct25 o) 1 = true ∧ 9 < (fsOf (ct25 o)).length then (letC (upC ct25 o (.inl (1, (fsOf (ct25 o)).set 9 (.inl (0))))) fun ct27 => (if o < (n8 + 1 + 1 + 1) ∧ isO (ct27 o) 1 = true ∧ 10 < (fsOf (ct27 o)).length then (letC (upC ct27 o (.inl (1, (fsOf (ct27 o)).set 10 (.inl (0))))) fun ct29 => (if o < (n8 + 1 + 1 + 1) ∧ isO (ct29 o) 1 = true ∧ 11 < (fsOf (ct29 o)).length then (letC (upC ct29 o (.inl (1, (fsOf (ct29 o)).set 11 (.inl (0))))) fun ct31 => (lp_X1_init_80 FU (n8 + 1 + 1 + 1) ct31 (0 + 1 + 0 + 1 + 1 + 1) (0 + 3 + 0 + 5 + 5 + 100) o (0))) else none)) else none)) else none)) else none)) else none))) else none)) else none))) else none))) else none)))) else none)) else none)) else none)
theorem kI_X1_init : IW yX1_init cX1_init 2 := ⟨co_X1_init, im_X1_init, in_X1, by decide +kernel, by decide +kernel, by decide +kernel, rfl⟩
set_option maxHeartbeats 4000000 in
set_option maxRecDepth 100000 in
theorem t_X1_init_80 (l : Launch) (g : GD) {p : Program} {e : Env} {s : State} {m : MethodId} {av : Array Value} {below : List Frame} {meth : Method} {c : Code} (o fu : Nat) : ∀ (n : Nat) (ct : CT) (kc ks : Nat) (z : Int32) (n2 : Nat) (ct2 : CT), lp_X1_init_80 fu n ct kc ks o z = some (n2, ct2) → CX p s m av c cX1_init 2 RX1 g → AXc g s s.heap → meth.name = "<init>" → meth.sig.returnType = none → meth.locks = false → ∀ (H : Heap) (locs : List Loc), WN g n ct H → sU g s H locs → ∀ ls : Array Slot, lv_has ls 2 [(0, rf g (o)), (1, .int (z))] → W p l e (RN 2 44 9 128) s m av below meth c H locs kc ks (MQ below (QN g n2 ct2) av s 9 128 (AU g)) (F0 m 80 ls []) := by
  induction fu with
  | zero => intro n ct kc ks z n2 ct2 h; cases h
  | succ k ih0 =>
    intro n ct kc ks z n2 ct2 h C hX hin hr hlk H locs hN hS ls hl
    have ih : ∀ (n : Nat) (ct : CT) (kc ks : Nat) (z : Int32), lp_X1_init_80 k n ct kc ks o z = some (n2, ct2) → ∀ (H : Heap) (locs : List Loc), WN g n ct H → sU g s H locs → ∀ ls : Array Slot, lv_has ls 2 [(0, rf g (o)), (1, .int (z))] → W p l e (RN 2 44 9 128) s m av below meth c H locs kc ks (MQ below (QN g n2 ct2) av s 9 128 (AU g)) (F0 m 80 ls []) := fun n ct kc ks z h H locs hN hS ls hl => ih0 n ct kc ks z n2 ct2 h C hX hin hr hlk H locs hN hS ls hl
    unfold lp_X1_init_80 at h
    try dsimp only at h
    have hx := C.1
    have hb := C.2.1
    refine lv_iload_n hx hb dX1_init_80 rfl (lv_at hl 1 rfl) ?_
    refine lv_aload_n hx hb dX1_init_81 rfl (lv_at hl 0 rfl) ?_
    have s1001 : o < n ∧ isO (ct o) 1 = true := Classical.byContradiction fun q9 => by rw [if_neg q9] at h; cases h
    rw [if_pos s1001] at h
    obtain ⟨q1002, h1003, h⟩ := bind1 h
    refine nGetR C hN 4 s1001.1 s1001.2 h1003 rfl inX1 (by decide) fl_X1_28 dX1_init_82 ?_
    have s1004 : q1002 < n ∧ isR (ct q1002) 7 = true := Classical.byContradiction fun q9 => by rw [if_neg q9] at h; cases h
    rw [if_pos s1004] at h
    refine nLenR C hN s1004.1 s1004.2 rfl dX1_init_85 ?_
    refine lv_icmp_ge (tgt := 108) hx hb dX1_init_86 (by decide) (fun c1005 => ?_) (fun c1005 => ?_)
    · rw [if_pos c1005] at h
      have s1006 : kc ≤ 9 ∧ ks ≤ 128 := Classical.byContradiction fun q9 => by rw [if_neg q9] at h; cases h
      rw [if_pos s1006] at h
      cases h
      exact nEnd C hr hlk s1006.1 s1006.2 dX1_init_108 hN hS
    · rw [if_neg c1005] at h
      refine lv_aload_n hx hb dX1_init_89 rfl (lv_at hl 0 rfl) ?_
      have s1007 : o < n ∧ isO (ct o) 1 = true := Classical.byContradiction fun q9 => by rw [if_neg q9] at h; cases h
      rw [if_pos s1007] at h
      obtain ⟨q1008, h1009, h⟩ := bind1 h
      refine nGetR C hN 4 s1007.1 s1007.2 h1009 rfl inX1 (by decide) fl_X1_28 dX1_init_90 ?_
      refine lv_iload_n hx hb dX1_init_93 rfl (lv_at hl 1 rfl) ?_
      have s1010 : kc + 1 ≤ 9 ∧ ks + 3 ≤ 128 := Classical.byContradiction fun q9 => by rw [if_neg q9] at h; cases h
      rw [if_pos s1010] at h
      refine nNew (ty := tyX4) (ci := 4) C hN hS [.inl 0, .inl 0, .inl 0] inX4 tyX4_ok cl_X1_21 is_X4 in_X4 rfl (fun j hj => by rcases (show j = 0 ∨ j = 1 ∨ j = 2 by omega) with rfl | rfl | rfl <;> rfl) s1010 dX1_init_94 (fun H hN hS => ?_)
      have hN : WN g (n + 1) (upC ct n (.inl (4, [.inl 0, .inl 0, .inl 0]))) H := hN
      have h := letEC h
      generalize upC ct n (.inl (4, [.inl 0, .inl 0, .inl 0])) = ct1011 at hN h
      refine lv_dup hx hb dX1_init_97 rfl ?_
      have s1015 : kc + 1 + 0 ≤ 9 ∧ ks + 3 + 0 ≤ 128 := Classical.byContradiction fun q9 => by rw [if_neg q9] at h; cases h
      rw [if_pos s1015] at h
      obtain ⟨n1012, ct1013, h1014, h⟩ := bind2 h
      refine nBack (runIN (rest := [rf g (n), .int (z), rf g (q1008)]) C hX hN hS (c_X4_init l g (n + 1) ct1011 n _ _ h1014) kI_X4_init ml_X1_23 hl.1 rfl (Nat.le_of_ble_eq_true rfl) ⟨Nat.le_of_ble_eq_true rfl, Nat.le_of_ble_eq_true rfl⟩ s1015 dX1_init_98) hS (fun H locs hN hS => ?_)
      have s1016 : q1008 < n1012 ∧ isR (ct1013 q1008) 7 = true ∧ n < n1012 ∧ isO (ct1013 n) 4 = true ∧ vin (z) (lenOf (ct1013 q1008)) := Classical.byContradiction fun q9 => by rw [if_neg q9] at h; cases h
      rw [if_pos s1016] at h
      refine nAst (j := 7) (ci := 4) C hN hS s1016.1 s1016.2.1 s1016.2.2.1 s1016.2.2.2.1 s1016.2.2.2.2 rfl rfl dX1_init_101 (fun H locs hN hS => ?_)
      have hN : WN g (n1012) (upC ct1013 q1008 (.inr (7, lenOf (ct1013 q1008), .inr (va_up (rfOf (ct1013 q1008)) (z : Int32).toNatClampNeg (some n))))) H := hN
      have h := letEC h
      generalize upC ct1013 q1008 (.inr (7, lenOf (ct1013 q1008), .inr (va_up (rfOf (ct1013 q1008)) (z : Int32).toNatClampNeg (some n)))) = ct1017 at hN h
      refine lv_iinc (v := z + 1) (lv' := [(1, .int (z + 1)), (0, rf g (o))]) hx hb dX1_init_102 hl (k := 1) rfl rfl (by decide) rfl (fun ls hl => ?_)
      refine lv_goto (tgt := 80) hx hb dX1_init_105 (by decide) ?_
      exact ih n1012 ct1017 (kc + 1 + 0) (ks + 3 + 0) (z + 1) h _ _ hN hS ls (lv_sub hl [1, 0] rfl)
set_option maxHeartbeats 4000000 in
set_option maxRecDepth 100000 in
theorem c_X1_init (l : Launch) (g : GD) (n : Nat) (ct : CT) (o : Nat) (n2 : Nat) (ct2 : CT) (h : f_X1_init n ct o = some (n2, ct2)) : Met l yX1_init (wm yX1_init cX1_init 2 none) (RN 2 44 9 128) (va_Pc [rf g o] (WNp g n ct)) (QN g n2 ct2) 9 128 (AU g) := by
  refine mkN (by decide +kernel) rfl (by decide) ?_
  intro p e s m below meth c C hX hin hr hlk hN hS ls hl
  have hx := C.1
  have hb := C.2.1
  unfold f_X1_init at h
  refine lv_aload_n hx hb dX1_init_0 rfl (lv_at hl 0 rfl) ?_
  refine nObj C ml_X1_3 hl.1 (Nat.le_of_ble_eq_true rfl) (Nat.le_of_ble_eq_true rfl) dX1_init_1 ?_
  refine lv_aload_n hx hb dX1_init_4 rfl (lv_at hl 0 rfl) ?_
  refine lv_iconst (v := 0) hx hb dX1_init_5 (by decide) ?_
  have s1 : o < n ∧ isO (ct o) 1 = true ∧ 0 < (fsOf (ct o)).length := Classical.byContradiction fun q9 => by rw [if_neg q9] at h; cases h
  rw [if_pos s1] at h
  refine nPut (cv := .inl (0)) C hN hS 0 s1.1 s1.2.1 s1.2.2 rfl inX1 tyX1_ok nmX1 (by decide) fl_X1_11 rfl (tyX1_ok 0 (by decide)) rfl rfl dX1_init_6 (fun H locs hN hS => ?_)
  have hN : WN g (n) (upC ct o (.inl (1, (fsOf (ct o)).set 0 (.inl (0))))) H := hN
  have h := letEC h
  generalize upC ct o (.inl (1, (fsOf (ct o)).set 0 (.inl (0)))) = ct2 at hN h
  refine lv_aload_n hx hb dX1_init_9 rfl (lv_at hl 0 rfl) ?_
  refine lv_iconst (v := 0) hx hb dX1_init_10 (by decide) ?_
  have s3 : o < n ∧ isO (ct2 o) 1 = true ∧ 1 < (fsOf (ct2 o)).length := Classical.byContradiction fun q9 => by rw [if_neg q9] at h; cases h
  rw [if_pos s3] at h
  refine nPut (cv := .inl (0)) C hN hS 1 s3.1 s3.2.1 s3.2.2 rfl inX1 tyX1_ok nmX1 (by decide) fl_X1_15 rfl (tyX1_ok 1 (by decide)) rfl rfl dX1_init_11 (fun H locs hN hS => ?_)
  have hN : WN g (n) (upC ct2 o (.inl (1, (fsOf (ct2 o)).set 1 (.inl (0))))) H := hN
  have h := letEC h
  generalize upC ct2 o (.inl (1, (fsOf (ct2 o)).set 1 (.inl (0)))) = ct4 at hN h
  refine lv_aload_n hx hb dX1_init_14 rfl (lv_at hl 0 rfl) ?_
  refine lv_iconst (v := 0) hx hb dX1_init_15 (by decide) ?_
  have s5 : o < n ∧ isO (ct4 o) 1 = true ∧ 2 < (fsOf (ct4 o)).length := Classical.byContradiction fun q9 => by rw [if_neg q9] at h; cases h
  rw [if_pos s5] at h
  refine nPut (cv := .inl (0)) C hN hS 2 s5.1 s5.2.1 s5.2.2 rfl inX1 tyX1_ok nmX1 (by decide) fl_X1_18 rfl (tyX1_ok 2 (by decide)) rfl rfl dX1_init_16 (fun H locs hN hS => ?_)
  have hN : WN g (n) (upC ct4 o (.inl (1, (fsOf (ct4 o)).set 2 (.inl (0))))) H := hN
  have h := letEC h
  generalize upC ct4 o (.inl (1, (fsOf (ct4 o)).set 2 (.inl (0)))) = ct6 at hN h
  refine lv_aload_n hx hb dX1_init_19 rfl (lv_at hl 0 rfl) ?_
  refine nNew (ty := tyX4) (ci := 4) C hN hS [.inl 0, .inl 0, .inl 0] inX4 tyX4_ok cl_X1_21 is_X4 in_X4 rfl (fun j hj => by rcases (show j = 0 ∨ j = 1 ∨ j = 2 by omega) with rfl | rfl | rfl <;> rfl) ⟨Nat.le_of_ble_eq_true rfl, Nat.le_of_ble_eq_true rfl⟩ dX1_init_20 (fun H hN hS => ?_)
  have hN : WN g (n + 1) (upC ct6 n (.inl (4, [.inl 0, .inl 0, .inl 0]))) H := hN
  have h := letEC h
  generalize upC ct6 n (.inl (4, [.inl 0, .inl 0, .inl 0])) = ct7 at hN h
  refine lv_dup hx hb dX1_init_23 rfl ?_
  obtain ⟨n8, ct9, h10, h⟩ := bind2 h
  refine nBack (runIN (rest := [rf g (n), rf g (o)]) C hX hN hS (c_X4_init l g (n + 1) ct7 n _ _ h10) kI_X4_init ml_X1_23 hl.1 rfl (Nat.le_of_ble_eq_true rfl) ⟨Nat.le_of_ble_eq_true rfl, Nat.le_of_ble_eq_true rfl⟩ ⟨Nat.le_of_ble_eq_true rfl, Nat.le_of_ble_eq_true rfl⟩ dX1_init_24) hS (fun H locs hN hS => ?_)
  have s11 : o < n8 ∧ isO (ct9 o) 1 = true ∧ 3 < (fsOf (ct9 o)).length := Classical.byContradiction fun q9 => by rw [if_neg q9] at h; cases h
  rw [if_pos s11] at h
  refine nPutF (cv := .inr (some n)) C hN hS hin 3 s11.1 s11.2.1 s11.2.2 rfl inX1 tyX1_ok nmX1 (by decide) fl_X1_24 rfl rfl (tyX1_ok 3 (by decide)) rfl rfl dX1_init_27 (fun H locs hN hS => ?_)
  have hN : WN g (n8) (upC ct9 o (.inl (1, (fsOf (ct9 o)).set 3 (.inr (some n))))) H := hN
  have h := letEC h
  generalize upC ct9 o (.inl (1, (fsOf (ct9 o)).set 3 (.inr (some n)))) = ct12 at hN h
  refine lv_aload_n hx hb dX1_init_30 rfl (lv_at hl 0 rfl) ?_
  refine lv_iconst (v := 5) hx hb dX1_init_31 (by decide) ?_
  refine nNewQ (x := 5) (N := 5) C hN hS 7 cl_X1_21 hX.1.1.2.2.2.2 rfl (by decide) (by decide) (by decide) ⟨Nat.le_of_ble_eq_true rfl, Nat.le_of_ble_eq_true rfl⟩ dX1_init_32 (fun H hN hS => ?_)
  have hN : WN g (n8 + 1) (upC ct12 n8 (.inr (7, 5, .inr (fun _ => none)))) H := hN
  have h := letEC h
  generalize upC ct12 n8 (.inr (7, 5, .inr (fun _ => none))) = ct13 at hN h
  have s14 : o < (n8 + 1) ∧ isO (ct13 o) 1 = true ∧ 4 < (fsOf (ct13 o)).length := Classical.byContradiction fun q9 => by rw [if_neg q9] at h; cases h
  rw [if_pos s14] at h
  refine nPutF (cv := .inr (some n8)) C hN hS hin 4 s14.1 s14.2.1 s14.2.2 rfl inX1 tyX1_ok nmX1 (by decide) fl_X1_28 rfl rfl (tyX1_ok 4 (by decide)) rfl rfl dX1_init_35 (fun H locs hN hS => ?_)
  have hN : WN g (n8 + 1) (upC ct13 o (.inl (1, (fsOf (ct13 o)).set 4 (.inr (some n8))))) H := hN
  have h := letEC h
  generalize upC ct13 o (.inl (1, (fsOf (ct13 o)).set 4 (.inr (some n8)))) = ct15 at hN h
  refine lv_aload_n hx hb dX1_init_38 rfl (lv_at hl 0 rfl) ?_
  refine lv_iconst (v := 5) hx hb dX1_init_39 (by decide) ?_
  refine nNewA (atype := .boolean) (x := 5) (N := 5) C hN hS 2 ac_boolean rfl rfl rfl rfl (by decide) (by decide) (by decide) ⟨Nat.le_of_ble_eq_true rfl, Nat.le_of_ble_eq_true rfl⟩ dX1_init_40 (fun cA q9 => Option.some.inj (q9.symm.trans hX.2.2.2.2)) (fun H hN hS => ?_)
  have hN : WN g (n8 + 1 + 1) (upC ct15 (n8 + 1) (.inr (2, 5, .inl (fun _ => 0)))) H := hN
  have h := letEC h
  generalize upC ct15 (n8 + 1) (.inr (2, 5, .inl (fun _ => 0))) = ct16 at hN h
  have s17 : o < (n8 + 1 + 1) ∧ isO (ct16 o) 1 = true ∧ 5 < (fsOf (ct16 o)).length := Classical.byContradiction fun q9 => by rw [if_neg q9] at h; cases h
  rw [if_pos s17] at h
  refine nPutF (cv := .inr (some (n8 + 1))) C hN hS hin 5 s17.1 s17.2.1 s17.2.2 rfl inX1 tyX1_ok nmX1 (by decide) fl_X1_32 rfl rfl (tyX1_ok 5 (by decide)) rfl rfl dX1_init_42 (fun H locs hN hS => ?_)
  have hN : WN g (n8 + 1 + 1) (upC ct16 o (.inl (1, (fsOf (ct16 o)).set 5 (.inr (some (n8 + 1)))))) H := hN
  have h := letEC h
  generalize upC ct16 o (.inl (1, (fsOf (ct16 o)).set 5 (.inr (some (n8 + 1))))) = ct18 at hN h
  refine lv_aload_n hx hb dX1_init_45 rfl (lv_at hl 0 rfl) ?_
  refine lv_iconst (v := 0) hx hb dX1_init_46 (by decide) ?_
  have s19 : o < (n8 + 1 + 1) ∧ isO (ct18 o) 1 = true ∧ 6 < (fsOf (ct18 o)).length := Classical.byContradiction fun q9 => by rw [if_neg q9] at h; cases h
  rw [if_pos s19] at h
  refine nPut (cv := .inl (0)) C hN hS 6 s19.1 s19.2.1 s19.2.2 rfl inX1 tyX1_ok nmX1 (by decide) fl_X1_36 rfl (tyX1_ok 6 (by decide)) rfl rfl dX1_init_47 (fun H locs hN hS => ?_)
  have hN : WN g (n8 + 1 + 1) (upC ct18 o (.inl (1, (fsOf (ct18 o)).set 6 (.inl (0))))) H := hN
  have h := letEC h
  generalize upC ct18 o (.inl (1, (fsOf (ct18 o)).set 6 (.inl (0)))) = ct20 at hN h
  refine lv_aload_n hx hb dX1_init_50 rfl (lv_at hl 0 rfl) ?_
  refine lv_bipush (v := 100) hx hb dX1_init_51 (by decide) ?_
  refine nNewA (atype := .int) (x := 100) (N := 100) C hN hS 0 ac_int rfl rfl rfl rfl (by decide) (by decide) (by decide) ⟨Nat.le_of_ble_eq_true rfl, Nat.le_of_ble_eq_true rfl⟩ dX1_init_53 (fun cA q9 => Option.some.inj (q9.symm.trans hX.2.2.1)) (fun H hN hS => ?_)
  have hN : WN g (n8 + 1 + 1 + 1) (upC ct20 (n8 + 1 + 1) (.inr (0, 100, .inl (fun _ => 0)))) H := hN
  have h := letEC h
  generalize upC ct20 (n8 + 1 + 1) (.inr (0, 100, .inl (fun _ => 0))) = ct21 at hN h
  have s22 : o < (n8 + 1 + 1 + 1) ∧ isO (ct21 o) 1 = true ∧ 7 < (fsOf (ct21 o)).length := Classical.byContradiction fun q9 => by rw [if_neg q9] at h; cases h
  rw [if_pos s22] at h
  refine nPutF (cv := .inr (some (n8 + 1 + 1))) C hN hS hin 7 s22.1 s22.2.1 s22.2.2 rfl inX1 tyX1_ok nmX1 (by decide) fl_X1_39 rfl rfl (tyX1_ok 7 (by decide)) rfl rfl dX1_init_55 (fun H locs hN hS => ?_)
  have hN : WN g (n8 + 1 + 1 + 1) (upC ct21 o (.inl (1, (fsOf (ct21 o)).set 7 (.inr (some (n8 + 1 + 1)))))) H := hN
  have h := letEC h
  generalize upC ct21 o (.inl (1, (fsOf (ct21 o)).set 7 (.inr (some (n8 + 1 + 1))))) = ct23 at hN h
  refine lv_aload_n hx hb dX1_init_58 rfl (lv_at hl 0 rfl) ?_
  refine lv_iconst (v := 0) hx hb dX1_init_59 (by decide) ?_
  have s24 : o < (n8 + 1 + 1 + 1) ∧ isO (ct23 o) 1 = true ∧ 8 < (fsOf (ct23 o)).length := Classical.byContradiction fun q9 => by rw [if_neg q9] at h; cases h
  rw [if_pos s24] at h
  refine nPut (cv := .inl (0)) C hN hS 8 s24.1 s24.2.1 s24.2.2 rfl inX1 tyX1_ok nmX1 (by decide) fl_X1_43 rfl (tyX1_ok 8 (by decide)) rfl rfl dX1_init_60 (fun H locs hN hS => ?_)
  have hN : WN g (n8 + 1 + 1 + 1) (upC ct23 o (.inl (1, (fsOf (ct23 o)).set 8 (.inl (0))))) H := hN
  have h := letEC h
  generalize upC ct23 o (.inl (1, (fsOf (ct23 o)).set 8 (.inl (0)))) = ct25 at hN h
  refine lv_aload_n hx hb dX1_init_63 rfl (lv_at hl 0 rfl) ?_
  refine lv_iconst (v := 0) hx hb dX1_init_64 (by decide) ?_
  have s26 : o < (n8 + 1 + 1 + 1) ∧ isO (ct25 o) 1 = true ∧ 9 < (fsOf (ct25 o)).length := Classical.byContradiction fun q9 => by rw [if_neg q9] at h; cases h
  rw [if_pos s26] at h
  refine nPut (cv := .inl (0)) C hN hS 9 s26.1 s26.2.1 s26.2.2 rfl inX1 tyX1_ok nmX1 (by decide) fl_X1_46 rfl (tyX1_ok 9 (by decide)) rfl rfl dX1_init_65 (fun H locs hN hS => ?_)
  have hN : WN g (n8 + 1 + 1 + 1) (upC ct25 o (.inl (1, (fsOf (ct25 o)).set 9 (.inl (0))))) H := hN
  have h := letEC h
  generalize upC ct25 o (.inl (1, (fsOf (ct25 o)).set 9 (.inl (0)))) = ct27 at hN h
  refine lv_aload_n hx hb dX1_init_68 rfl (lv_at hl 0 rfl) ?_
  refine lv_iconst (v := 0) hx hb dX1_init_69 (by decide) ?_
  have s28 : o < (n8 + 1 + 1 + 1) ∧ isO (ct27 o) 1 = true ∧ 10 < (fsOf (ct27 o)).length := Classical.byContradiction fun q9 => by rw [if_neg q9] at h; cases h
  rw [if_pos s28] at h
  refine nPut (cv := .inl (0)) C hN hS 10 s28.1 s28.2.1 s28.2.2 rfl inX1 tyX1_ok nmX1 (by decide) fl_X1_49 rfl (tyX1_ok 10 (by decide)) rfl rfl dX1_init_70 (fun H locs hN hS => ?_)
  have hN : WN g (n8 + 1 + 1 + 1) (upC ct27 o (.inl (1, (fsOf (ct27 o)).set 10 (.inl (0))))) H := hN
  have h := letEC h
  generalize upC ct27 o (.inl (1, (fsOf (ct27 o)).set 10 (.inl (0)))) = ct29 at hN h
  refine lv_aload_n hx hb dX1_init_73 rfl (lv_at hl 0 rfl) ?_
  refine lv_iconst (v := 0) hx hb dX1_init_74 (by decide) ?_
  have s30 : o < (n8 + 1 + 1 + 1) ∧ isO (ct29 o) 1 = true ∧ 11 < (fsOf (ct29 o)).length := Classical.byContradiction fun q9 => by rw [if_neg q9] at h; cases h
  rw [if_pos s30] at h
  refine nPut (cv := .inl (0)) C hN hS 11 s30.1 s30.2.1 s30.2.2 rfl inX1 tyX1_ok nmX1 (by decide) fl_X1_52 rfl (tyX1_ok 11 (by decide)) rfl rfl dX1_init_75 (fun H locs hN hS => ?_)
  have hN : WN g (n8 + 1 + 1 + 1) (upC ct29 o (.inl (1, (fsOf (ct29 o)).set 11 (.inl (0))))) H := hN
  have h := letEC h
  generalize upC ct29 o (.inl (1, (fsOf (ct29 o)).set 11 (.inl (0)))) = ct31 at hN h
  refine lv_iconst (v := 0) hx hb dX1_init_78 (by decide) ?_
  refine lv_istore_n (lv' := [(1, .int (0)), (0, rf g (o))]) hx hb dX1_init_79 rfl hl (by decide) rfl (fun ls hl => ?_)
  exact t_X1_init_80 l g o FU (n8 + 1 + 1 + 1) ct31 (0 + 1 + 0 + 1 + 1 + 1) (0 + 3 + 0 + 5 + 5 + 100) (0) _ _ h C hX hin hr hlk _ _ hN hS ls (lv_sub hl [1, 0] rfl)
def f_X10_init (n : Nat) (ct : CT) (o : Nat) : Option (Nat × CT) := (letC (upC ct n (.inl (9, [.inr none, .inr none, .inr none, .inr none, .inr none, .inr none, .inr none, .inr none, .inl 0, .inl 0, .inr none, .inr none]))) fun ct1 => (bnd2 (f_X9_init (n + 1) ct1 n) fun n2 ct3 => (if o < n2 ∧ isO (ct3 o) 10 = true ∧ 0 < (fsOf (ct3 o)).length then (letC (upC ct3 o (.inl (10, (fsOf (ct3 o)).set 0 (.inr (some n))))) fun ct6 => (letC (upC ct6 n2 (.inl (3, [.inr none, .inl 0]))) fun ct7 => (bnd2 (f_X3_init (n2 + 1) ct7 n2) fun n8 ct9 => (if o < n8 ∧ isO (ct9 o) 10 = true ∧ 1 < (fsOf (ct9 o)).length then (letC (upC ct9 o (.inl (10, (fsOf (ct9 o)).set 1 (.inr (some n2))))) fun ct12 => (letC (upC ct12 n8 (.inl (8, [.inr none, .inr none, .inl 0]))) fun ct13 => (bnd2 (f_X8_init (n8 + 1) ct13 n8) fun n14 ct15 => (if o < n14 ∧ isO (ct15 o) 10 = true ∧ 2 < (fsOf (ct15 o)).length then (letC (upC ct15 o (.inl (10, (fsOf (ct15 o)).set 2 (.inr (some n8))))) fun ct18 => (letC (upC ct18 n14 (.inl (1, [.inl 0, .inl 0, .inl 0, .inr none, .inr none, .inr none, .inl 0, .inr none, .inl 0, .inl 0, .inl 0, .inl 0]))) fun ct19 => (bnd2 (f_X1_init (n14 + 1) ct19 n14) fun n20 ct21 => (if o < n20 ∧ isO (ct21 o) 10 = true ∧ 3 < (fsOf (ct21 o)).length then (letC (upC ct21 o (.inl (10, (fsOf (ct21 o)).set 3 (.inr (some n14))))) fun ct24 => (letC (upC ct24 n20 (.inr (1, 60, .inl (fun _ => 0)))) fun ct25 => (if o < (n20 + 1) ∧ isO (ct25 o) 10 = true ∧ 4 < (fsOf (ct25 o)).length then (letC (upC ct25 o (.inl (10, (fsOf (ct25 o)).set 4 (.inr (some n20))))) fun ct27 => (if o < (n20 + 1) ∧ isO (ct27 o) 10 = true ∧ 5 < (fsOf (ct27 o)).length then (letC (upC ct27 o (.inl (10, (fsOf (ct27 o)).set 5 (.inl (0))))) fun ct29 => some (n20 + 1, ct29)) else none)) else none))) else none)))) else none)))) else none)))) else none)))
theorem kI_X10_init : IW yX10_init cX10_init 1 := ⟨co_X10_init, im_X10_init, in_X10, by decide +kernel, by decide +kernel, by decide +kernel, rfl⟩
set_option maxHeartbeats 4000000 in
set_option maxRecDepth 100000 in
theorem c_X10_init (l : Launch) (g : GD) (n : Nat) (ct : CT) (o : Nat) (n2 : Nat) (ct2 : CT) (h : f_X10_init n ct o = some (n2, ct2)) : Met l yX10_init (wm yX10_init cX10_init 1 none) (RN 6 127 1696 12282) (va_Pc [rf g o] (WNp g n ct)) (QN g n2 ct2) 1696 12282 (AU g) := by
  refine mkN (by decide +kernel) rfl (by decide) ?_
  intro p e s m below meth c C hX hin hr hlk hN hS ls hl
  have hx := C.1
  have hb := C.2.1
  unfold f_X10_init at h
  refine lv_aload_n hx hb dX10_init_0 rfl (lv_at hl 0 rfl) ?_
  refine nObj C ml_X10_1 hl.1 (Nat.le_of_ble_eq_true rfl) (Nat.le_of_ble_eq_true rfl) dX10_init_1 ?_
  refine lv_aload_n hx hb dX10_init_4 rfl (lv_at hl 0 rfl) ?_
  refine nNew (ty := tyX9) (ci := 9) C hN hS [.inr none, .inr none, .inr none, .inr none, .inr none, .inr none, .inr none, .inr none, .inl 0, .inl 0, .inr none, .inr none] inX9 tyX9_ok cl_X10_7 is_X9 in_X9 rfl (fun j hj => by rcases (show j = 0 ∨ j = 1 ∨ j = 2 ∨ j = 3 ∨ j = 4 ∨ j = 5 ∨ j = 6 ∨ j = 7 ∨ j = 8 ∨ j = 9 ∨ j = 10 ∨ j = 11 by omega) with rfl | rfl | rfl | rfl | rfl | rfl | rfl | rfl | rfl | rfl | rfl | rfl <;> rfl) ⟨Nat.le_of_ble_eq_true rfl, Nat.le_of_ble_eq_true rfl⟩ dX10_init_5 (fun H hN hS => ?_)
  have hN : WN g (n + 1) (upC ct n (.inl (9, [.inr none, .inr none, .inr none, .inr none, .inr none, .inr none, .inr none, .inr none, .inl 0, .inl 0, .inr none, .inr none]))) H := hN
  have h := letEC h
  generalize upC ct n (.inl (9, [.inr none, .inr none, .inr none, .inr none, .inr none, .inr none, .inr none, .inr none, .inl 0, .inl 0, .inr none, .inr none])) = ct1 at hN h
  refine lv_dup hx hb dX10_init_8 rfl ?_
  obtain ⟨n2, ct3, h4, h⟩ := bind2 h
  refine nBack (runI (rest := [rf g (n), rf g (o)]) C hX hN hS (c_X9_init l g (n + 1) ct1 n _ _ h4) kI_X9_init ml_X10_9 hl.1 rfl (Nat.le_of_ble_eq_true rfl) ⟨Nat.le_of_ble_eq_true rfl, Nat.le_of_ble_eq_true rfl⟩ ⟨Nat.le_of_ble_eq_true rfl, Nat.le_of_ble_eq_true rfl⟩ dX10_init_9) hS (fun H locs hN hS => ?_)
  have s5 : o < n2 ∧ isO (ct3 o) 10 = true ∧ 0 < (fsOf (ct3 o)).length := Classical.byContradiction fun q9 => by rw [if_neg q9] at h; cases h
  rw [if_pos s5] at h
  refine nPutF (cv := .inr (some n)) C hN hS hin 0 s5.1 s5.2.1 s5.2.2 rfl inX10 tyX10_ok nmX10 (by decide) fl_X10_10 rfl rfl (tyX10_ok 0 (by decide)) rfl rfl dX10_init_12 (fun H locs hN hS => ?_)
  have hN : WN g (n2) (upC ct3 o (.inl (10, (fsOf (ct3 o)).set 0 (.inr (some n))))) H := hN
  have h := letEC h
  generalize upC ct3 o (.inl (10, (fsOf (ct3 o)).set 0 (.inr (some n)))) = ct6 at hN h
  refine lv_aload_n hx hb dX10_init_15 rfl (lv_at hl 0 rfl) ?_
  refine nNew (ty := tyX3) (ci := 3) C hN hS [.inr none, .inl 0] inX3 tyX3_ok cl_X10_16 is_X3 in_X3 rfl (fun j hj => by rcases (show j = 0 ∨ j = 1 by omega) with rfl | rfl <;> rfl) ⟨Nat.le_of_ble_eq_true rfl, Nat.le_of_ble_eq_true rfl⟩ dX10_init_16 (fun H hN hS => ?_)
  have hN : WN g (n2 + 1) (upC ct6 n2 (.inl (3, [.inr none, .inl 0]))) H := hN
  have h := letEC h
  generalize upC ct6 n2 (.inl (3, [.inr none, .inl 0])) = ct7 at hN h
  refine lv_dup hx hb dX10_init_19 rfl ?_
  obtain ⟨n8, ct9, h10, h⟩ := bind2 h
  refine nBack (runI (rest := [rf g (n2), rf g (o)]) C hX hN hS (c_X3_init l g (n2 + 1) ct7 n2 _ _ h10) kI_X3_init ml_X10_18 hl.1 rfl (Nat.le_of_ble_eq_true rfl) ⟨Nat.le_of_ble_eq_true rfl, Nat.le_of_ble_eq_true rfl⟩ ⟨Nat.le_of_ble_eq_true rfl, Nat.le_of_ble_eq_true rfl⟩ dX10_init_20) hS (fun H locs hN hS => ?_)
  have s11 : o < n8 ∧ isO (ct9 o) 10 = true ∧ 1 < (fsOf (ct9 o)).length := Classical.byContradiction fun q9 => by rw [if_neg q9] at h; cases h
  rw [if_pos s11] at h
  refine nPutF (cv := .inr (some n2)) C hN hS hin 1 s11.1 s11.2.1 s11.2.2 rfl inX10 tyX10_ok nmX10 (by decide) fl_X10_19 rfl rfl (tyX10_ok 1 (by decide)) rfl rfl dX10_init_23 (fun H locs hN hS => ?_)
  have hN : WN g (n8) (upC ct9 o (.inl (10, (fsOf (ct9 o)).set 1 (.inr (some n2))))) H := hN
  have h := letEC h
  generalize upC ct9 o (.inl (10, (fsOf (ct9 o)).set 1 (.inr (some n2)))) = ct12 at hN h
  refine lv_aload_n hx hb dX10_init_26 rfl (lv_at hl 0 rfl) ?_
  refine nNew (ty := tyX8) (ci := 8) C hN hS [.inr none, .inr none, .inl 0] inX8 tyX8_ok cl_X10_23 is_X8 in_X8 rfl (fun j hj => by rcases (show j = 0 ∨ j = 1 ∨ j = 2 by omega) with rfl | rfl | rfl <;> rfl) ⟨Nat.le_of_ble_eq_true rfl, Nat.le_of_ble_eq_true rfl⟩ dX10_init_27 (fun H hN hS => ?_)
  have hN : WN g (n8 + 1) (upC ct12 n8 (.inl (8, [.inr none, .inr none, .inl 0]))) H := hN
  have h := letEC h
  generalize upC ct12 n8 (.inl (8, [.inr none, .inr none, .inl 0])) = ct13 at hN h
  refine lv_dup hx hb dX10_init_30 rfl ?_
  obtain ⟨n14, ct15, h16, h⟩ := bind2 h
  refine nBack (runIN (rest := [rf g (n8), rf g (o)]) C hX hN hS (c_X8_init l g (n8 + 1) ct13 n8 _ _ h16) kI_X8_init ml_X10_25 hl.1 rfl (Nat.le_of_ble_eq_true rfl) ⟨Nat.le_of_ble_eq_true rfl, Nat.le_of_ble_eq_true rfl⟩ ⟨Nat.le_of_ble_eq_true rfl, Nat.le_of_ble_eq_true rfl⟩ dX10_init_31) hS (fun H locs hN hS => ?_)
  have s17 : o < n14 ∧ isO (ct15 o) 10 = true ∧ 2 < (fsOf (ct15 o)).length := Classical.byContradiction fun q9 => by rw [if_neg q9] at h; cases h
  rw [if_pos s17] at h
  refine nPutF (cv := .inr (some n8)) C hN hS hin 2 s17.1 s17.2.1 s17.2.2 rfl inX10 tyX10_ok nmX10 (by decide) fl_X10_26 rfl rfl (tyX10_ok 2 (by decide)) rfl rfl dX10_init_34 (fun H locs hN hS => ?_)
  have hN : WN g (n14) (upC ct15 o (.inl (10, (fsOf (ct15 o)).set 2 (.inr (some n8))))) H := hN
  have h := letEC h
  generalize upC ct15 o (.inl (10, (fsOf (ct15 o)).set 2 (.inr (some n8)))) = ct18 at hN h
  refine lv_aload_n hx hb dX10_init_37 rfl (lv_at hl 0 rfl) ?_
  refine nNew (ty := tyX1) (ci := 1) C hN hS [.inl 0, .inl 0, .inl 0, .inr none, .inr none, .inr none, .inl 0, .inr none, .inl 0, .inl 0, .inl 0, .inl 0] inX1 tyX1_ok cl_X10_30 is_X1 in_X1 rfl (fun j hj => by rcases (show j = 0 ∨ j = 1 ∨ j = 2 ∨ j = 3 ∨ j = 4 ∨ j = 5 ∨ j = 6 ∨ j = 7 ∨ j = 8 ∨ j = 9 ∨ j = 10 ∨ j = 11 by omega) with rfl | rfl | rfl | rfl | rfl | rfl | rfl | rfl | rfl | rfl | rfl | rfl <;> rfl) ⟨Nat.le_of_ble_eq_true rfl, Nat.le_of_ble_eq_true rfl⟩ dX10_init_38 (fun H hN hS => ?_)
  have hN : WN g (n14 + 1) (upC ct18 n14 (.inl (1, [.inl 0, .inl 0, .inl 0, .inr none, .inr none, .inr none, .inl 0, .inr none, .inl 0, .inl 0, .inl 0, .inl 0]))) H := hN
  have h := letEC h
  generalize upC ct18 n14 (.inl (1, [.inl 0, .inl 0, .inl 0, .inr none, .inr none, .inr none, .inl 0, .inr none, .inl 0, .inl 0, .inl 0, .inl 0])) = ct19 at hN h
  refine lv_dup hx hb dX10_init_41 rfl ?_
  obtain ⟨n20, ct21, h22, h⟩ := bind2 h
  refine nBack (runI (rest := [rf g (n14), rf g (o)]) C hX hN hS (c_X1_init l g (n14 + 1) ct19 n14 _ _ h22) kI_X1_init ml_X10_32 hl.1 rfl (Nat.le_of_ble_eq_true rfl) ⟨Nat.le_of_ble_eq_true rfl, Nat.le_of_ble_eq_true rfl⟩ ⟨Nat.le_of_ble_eq_true rfl, Nat.le_of_ble_eq_true rfl⟩ dX10_init_42) hS (fun H locs hN hS => ?_)
  have s23 : o < n20 ∧ isO (ct21 o) 10 = true ∧ 3 < (fsOf (ct21 o)).length := Classical.byContradiction fun q9 => by rw [if_neg q9] at h; cases h
  rw [if_pos s23] at h
  refine nPutF (cv := .inr (some n14)) C hN hS hin 3 s23.1 s23.2.1 s23.2.2 rfl inX10 tyX10_ok nmX10 (by decide) fl_X10_33 rfl rfl (tyX10_ok 3 (by decide)) rfl rfl dX10_init_45 (fun H locs hN hS => ?_)
  have hN : WN g (n20) (upC ct21 o (.inl (10, (fsOf (ct21 o)).set 3 (.inr (some n14))))) H := hN
  have h := letEC h
  generalize upC ct21 o (.inl (10, (fsOf (ct21 o)).set 3 (.inr (some n14)))) = ct24 at hN h
  refine lv_aload_n hx hb dX10_init_48 rfl (lv_at hl 0 rfl) ?_
  refine lv_bipush (v := 60) hx hb dX10_init_49 (by decide) ?_
  refine nNewA (atype := .char) (x := 60) (N := 60) C hN hS 1 ac_char rfl rfl rfl rfl (by decide) (by decide) (by decide) ⟨Nat.le_of_ble_eq_true rfl, Nat.le_of_ble_eq_true rfl⟩ dX10_init_51 (fun cA q9 => Option.some.inj (q9.symm.trans hX.2.2.2.1)) (fun H hN hS => ?_)
  have hN : WN g (n20 + 1) (upC ct24 n20 (.inr (1, 60, .inl (fun _ => 0)))) H := hN
  have h := letEC h
  generalize upC ct24 n20 (.inr (1, 60, .inl (fun _ => 0))) = ct25 at hN h
  have s26 : o < (n20 + 1) ∧ isO (ct25 o) 10 = true ∧ 4 < (fsOf (ct25 o)).length := Classical.byContradiction fun q9 => by rw [if_neg q9] at h; cases h
  rw [if_pos s26] at h
  refine nPutF (cv := .inr (some n20)) C hN hS hin 4 s26.1 s26.2.1 s26.2.2 rfl inX10 tyX10_ok nmX10 (by decide) fl_X10_37 rfl rfl (tyX10_ok 4 (by decide)) rfl rfl dX10_init_53 (fun H locs hN hS => ?_)
  have hN : WN g (n20 + 1) (upC ct25 o (.inl (10, (fsOf (ct25 o)).set 4 (.inr (some n20))))) H := hN
  have h := letEC h
  generalize upC ct25 o (.inl (10, (fsOf (ct25 o)).set 4 (.inr (some n20)))) = ct27 at hN h
  refine lv_aload_n hx hb dX10_init_56 rfl (lv_at hl 0 rfl) ?_
  refine lv_iconst (v := 0) hx hb dX10_init_57 (by decide) ?_
  have s28 : o < (n20 + 1) ∧ isO (ct27 o) 10 = true ∧ 5 < (fsOf (ct27 o)).length := Classical.byContradiction fun q9 => by rw [if_neg q9] at h; cases h
  rw [if_pos s28] at h
  refine nPut (cv := .inl (0)) C hN hS 5 s28.1 s28.2.1 s28.2.2 rfl inX10 tyX10_ok nmX10 (by decide) fl_X10_41 rfl (tyX10_ok 5 (by decide)) rfl rfl dX10_init_58 (fun H locs hN hS => ?_)
  have hN : WN g (n20 + 1) (upC ct27 o (.inl (10, (fsOf (ct27 o)).set 5 (.inl (0))))) H := hN
  have h := letEC h
  generalize upC ct27 o (.inl (10, (fsOf (ct27 o)).set 5 (.inl (0)))) = ct29 at hN h
  cases h
  exact nEnd C hr hlk (Nat.le_of_ble_eq_true rfl) (Nat.le_of_ble_eq_true rfl) dX10_init_61 hN hS
