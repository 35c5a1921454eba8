theorem ww_tbl {w : Cond} (h : w ∈ WW) : w ∈ lw_tbl := (List.mem_filter.mp h).1
theorem nf_tbl : ∀ q ∈ NLf, Cond.fieldLinkNest q.1 q.2.1 q.2.2.1 q.2.2.2.1 q.2.2.2.2 "BellFoundry" ∈ lw_tbl := by
  have h : NLf.all (fun q => decide (Cond.fieldLinkNest q.1 q.2.1 q.2.2.1 q.2.2.2.1 q.2.2.2.2 "BellFoundry" ∈ tables_1)) = true := by decide +kernel
  exact fun q hq => List.mem_append_right _ (of_decide_eq_true (List.all_eq_true.mp h q hq))
theorem nm_tbl : ∀ q ∈ NLm, Cond.methodLinkNest q.1 q.2.1 q.2.2 "BellFoundry" ∈ lw_tbl := by
  have h : NLm.all (fun q => decide (Cond.methodLinkNest q.1 q.2.1 q.2.2 "BellFoundry" ∈ tables_1)) = true := by decide +kernel
  exact fun q hq => List.mem_append_right _ (of_decide_eq_true (List.all_eq_true.mp h q hq))
theorem arrI {s : State} {args : Array Value} {ty : FieldType} (hobj : ∀ C, ty ≠ .object C) (h : (Cond.arrayClass ty).before args s = true) : ∃ cA : ClassId, (ArrOfT s cA ty ∧ va_RA s cA ty) ∧ s.vm.findClass ("[" ++ ty.toString) = some cA := by
  obtain ⟨cA, kA, comp, h1, h2, h3⟩ := Cond.arrayClass_spec h
  refine ⟨cA, ⟨fun n z => ⟨(fun k h => by cases h), kA, h2, comp, h3⟩, ?_⟩, h1⟩
  cases ty <;> first | exact h1 | exact absurd rfl (hobj _)
theorem arrR {s : State} {args : Array Value} {r : String} (h : (Cond.arrayOver (.object r)).before args s = true) : ∃ cA : ClassId, ArrOfT s cA (.object r) ∧ va_RA s cA (.object r) := by
  obtain ⟨comp, cA, kA, h1, h2, h3, h4, h5⟩ := Cond.arrayOver_spec h
  exact ⟨cA, fun n z => ⟨(fun k h => by cases h), kA, h3, comp, h4⟩, kA, comp, h3, h4, h1, h5⟩
/-- a static row of whole numbers, as the Statement gives it -/
theorem statOf {s : State} {args : Array Value} {nm : String} {N : Nat} {f : Nat → Int32} {A : Nat → Prop} (hN : N < 2 ^ 31) (hl : (Cond.laysStatic "BellFoundry" nm "[I").before args s = true) (hini : (Cond.initialized "BellFoundry").before args s = true) (harr : (Cond.arrayOf (.static "BellFoundry" nm "[I") .int).before args s = true) (hlen : (Cond.eq (.length (.static "BellFoundry" nm "[I")) (.int (Int32.ofNat N))).before args s = true) (hel : ∀ j, j < N → (Cond.eq (.elem (.static "BellFoundry" nm "[I") (.int (Int32.ofNat j))) (.int (f j))).before args s = true) (hA : ∀ a : Nat, a < s.heap.size → ¬ A a) : ∃ t : Nat, va_Z "BellFoundry" nm "[I" (.ref t) A s s.heap ∧ va_T .int t N (fun i => .int (f i)) A s s.heap ∧ ∃ cell : Cell, s.heap[t]? = some cell ∧ s.isArrayOf cell .int ∧ cell.vm ≠ .unknown ∧ cell.slots.size = N ∧ (∀ j, j < N → cell.slots[j]? = some (.int (f j))) ∧ (Term.static "BellFoundry" nm "[I").eval args s none [] s = some (.ref t) := by
  have hlen' := va_eqt hlen
  obtain ⟨t, ht, hT⟩ := va_Tof (f := fun i => .int (f i)) hN harr hlen' (fun j hj => va_eqt (hel j hj)) hA
  refine ⟨t, va_Zref hl hini ht hA, hT, ?_⟩
  obtain ⟨cell, h1, h2, h3, h4, h5, h6, h7⟩ := hT
  obtain ⟨t2, cell2, e1, e2, -⟩ := Term.length_spec hlen'
  cases ht.symm.trans e1
  cases h1.symm.trans (State.arrayAt?_spec e2).1
  have hsz : cell.slots.size < 2 ^ 31 := by
    simp only [Term.eval, Option.bind_eq_bind] at hlen'
    have e1' : (Term.static "BellFoundry" nm "[I").eval args s none [] s = some (.ref t) := e1
    simp only [Term.eval, Option.bind_eq_bind] at e1'
    simp only [e1', e2, Option.bind_some] at hlen'
    by_cases hlt : cell.slots.size < 2147483648
    · exact hlt
    · simp [hlt] at hlen'
  have hNs : cell.slots.size = N := by
    have a1 : (Int32.ofNat cell.slots.size).toInt = (cell.slots.size : Int) := Int32.toInt_ofNat_small hsz
    have a2 : (Int32.ofNat N).toInt = (N : Int) := Int32.toInt_ofNat_small hN
    have a3 : Int32.ofNat cell.slots.size = Int32.ofNat N := h5
    rw [a3, a2] at a1
    omega
  exact ⟨cell, h1, h2, h3, hNs, h6, ht⟩

def R_law : String := "BellFoundryLaw"
def lw_P (b : Addr) (xs : List Int32) (args : Array Value) (s : State) : Prop := args = #[.ref b] ∧ s.IntsAt b xs ∧ xs.length ≤ 260 ∧ (Jvm.Cond.and given_1 narrow_1).before args s = true
def lw_Q (_ : Array Value) (s : State) (o : Outcome) (t : State) : Prop := o = .returned (some (.int 1)) ∧ Framed s o t [] 650469 7150842
def lw_Z (below : List Frame) (a : Array Value) (s : State) : State → Prop := fun t => ∃ o, t.status = .running ∧ Ended t below o ∧ lw_Q a s o t
/-- the law's own end, with 1 on the stack, nothing written that was there before, its room as the claim has it -/
theorem lw_ret {p : Program} {l : Launch} {e : Env} {s : State} {m : MethodId} {below : List Frame} {meth : Method} {c : Code} {b : Nat} (hx : p.tables.exec = Jvm.exec) (hb : c.code = code) (hr : meth.sig.returnType = ret) (hlocks : meth.locks = false) {pc : Nat} {H : Heap} {ls : Array Slot} (hdg : decode code pc = .ok (.ireturn, 1)) : W p l e room_1 s m #[Value.ref b] below meth c H [] 650469 7150842 (lw_Z below #[Value.ref b] s) (F0 m pc ls [.int 1]) := by
  intro T hT X
  obtain ⟨fs, hret, hrun, hended, hW, hframe⟩ := X.leave (v := some (.int 1)) (hlocks := hlocks) (fun h => by rw [hr] at h; cases h)
  have hmeth' : T.vm.method? m = some meth := X.method'
  refine ⟨T.setFrames fs, ?_, .returned (some (.int 1)), hrun, hended, rfl, ⟨_, rfl⟩, hW, hframe⟩
  jvm_step X.here [X.here.top, hx, hb, hdg, hmeth', hr, ret, narrow_b1]
  (try refine ⟨rfl, ?_⟩); (try refine ⟨rfl, ?_⟩)
  first | (intro acts; rw [hret _ acts rfl rfl rfl]) | rw [hret _ _ rfl rfl rfl]
  exact Steps.refl _
/-- what holds at the law's entry: the machine, the code, the tables' words (any of lw_tbl by 'hts w (by decide +kernel)'), the script of L ints xs at the cell b, what the Statement gives of the start (any of its parts by flat_of_before) -/
def lw_At (p : Program) (s : State) (m : MethodId) (meth : Method) (c : Code) (b L : Nat) (xs : Nat → Int32) : Prop :=
  p.tables.exec = Jvm.exec ∧ c.code = code ∧ meth.sig.returnType = ret ∧ c.maxLocals = 10 ∧ s.vm.findClass R_law = some m.cls ∧ (∀ w ∈ lw_tbl, w.before #[Value.ref b] s = true) ∧ va_X b L xs s s.heap ∧ b < s.heap.size ∧ meth.locks = false ∧ (Jvm.Cond.and given_1 narrow_1).before #[Value.ref b] s = true

theorem law_pure (xs : Nat → Int32) (L : Nat) (hL : L ≤ 260) : f_L_law M0 xs L = some () := law_run xs L hL
set_option maxHeartbeats 4000000 in
set_option maxRecDepth 100000 in
/-- THE LAW, from its entry -/
theorem whole_start {p : Program} {e : Env} {s : State} {m : MethodId} {below : List Frame} {meth : Method} {c : Code} (l : Launch) (hflags : l.flags = flags0) {b L : Nat} {xs : Nat → Int32} (hL : L ≤ 260) (C0 : lw_At p s m meth c b L xs) : W p l e room_1 s m #[Value.ref b] below meth c s.heap [] 0 0 (lw_Z below #[Value.ref b] s) (entryFrame m ([Value.ref b] : List Value).toArray 10) := by
  obtain ⟨hx, hb, hr, hml, hown, hts, hX, hbl, hlocks, hgv⟩ := id C0
  have hs := flat_of_before _ hgv
  have hA0 : ∀ a : Nat, a < s.heap.size → ¬ (fun q : Nat => s.heap.size ≤ q) a := fun a h => Nat.not_le.mpr h
  have hini := hts (.initialized "BellFoundry") (ww_tbl in_X10)
  obtain ⟨c0, i0, hK0⟩ := u_known (C := RX0) (T := TX0) (N := 7) (n := 7) hts (fun w h => ww_tbl (inX0 w h)) (hts _ (ww_tbl is_X0))
  obtain ⟨c1, i1, hK1⟩ := u_known (C := RX1) (T := TX1) (N := 12) (n := 12) hts (fun w h => ww_tbl (inX1 w h)) (hts _ (ww_tbl is_X1))
  obtain ⟨c2, i2, hK2⟩ := u_known (C := RX2) (T := TX2) (N := 2) (n := 2) hts (fun w h => ww_tbl (inX2 w h)) (hts _ (ww_tbl is_X2))
  obtain ⟨c3, i3, hK3⟩ := u_known (C := RX3) (T := TX3) (N := 2) (n := 2) hts (fun w h => ww_tbl (inX3 w h)) (hts _ (ww_tbl is_X3))
  obtain ⟨c4, i4, hK4⟩ := u_known (C := RX4) (T := TX4) (N := 3) (n := 3) hts (fun w h => ww_tbl (inX4 w h)) (hts _ (ww_tbl is_X4))
  obtain ⟨c5, i5, hK5⟩ := u_known (C := RX5) (T := TX5) (N := 2) (n := 2) hts (fun w h => ww_tbl (inX5 w h)) (hts _ (ww_tbl is_X5))
  obtain ⟨c6, i6, hK6⟩ := u_known (C := RX6) (T := TX6) (N := 2) (n := 2) hts (fun w h => ww_tbl (inX6 w h)) (hts _ (ww_tbl is_X6))
  obtain ⟨c7, i7, hK7⟩ := u_known (C := RX7) (T := TX7) (N := 4) (n := 4) hts (fun w h => ww_tbl (inX7 w h)) (hts _ (ww_tbl is_X7))
  obtain ⟨c8, i8, hK8⟩ := u_known (C := RX8) (T := TX8) (N := 3) (n := 3) hts (fun w h => ww_tbl (inX8 w h)) (hts _ (ww_tbl is_X8))
  obtain ⟨c9, i9, hK9⟩ := u_known (C := RX9) (T := TX9) (N := 12) (n := 12) hts (fun w h => ww_tbl (inX9 w h)) (hts _ (ww_tbl is_X9))
  obtain ⟨c10, i10, hK10⟩ := u_known (C := RX10) (T := TX10) (N := 6) (n := 6) hts (fun w h => ww_tbl (inX10 w h)) (hts _ (ww_tbl is_X10))
  obtain ⟨dC, dI, hKc⟩ : ∃ (dC : Nat → ClassId) (dI : Nat → Nat → Nat), ∀ (k : Nat) (q : vw_C), vwCl[k]? = some q → u_Kn s q.1 q.2.1 q.2.2 (dC k) (dI k) := by
    refine ⟨fun k => match k with | 0 => c0 | 1 => c1 | 2 => c2 | 3 => c3 | 4 => c4 | 5 => c5 | 6 => c6 | 7 => c7 | 8 => c8 | 9 => c9 | _ => c10, fun k => match k with | 0 => i0 | 1 => i1 | 2 => i2 | 3 => i3 | 4 => i4 | 5 => i5 | 6 => i6 | 7 => i7 | 8 => i8 | 9 => i9 | _ => i10, ?_⟩
    intro k q hq
    match k, hq with
    | 0, hq => cases hq; exact hK0
    | 1, hq => cases hq; exact hK1
    | 2, hq => cases hq; exact hK2
    | 3, hq => cases hq; exact hK3
    | 4, hq => cases hq; exact hK4
    | 5, hq => cases hq; exact hK5
    | 6, hq => cases hq; exact hK6
    | 7, hq => cases hq; exact hK7
    | 8, hq => cases hq; exact hK8
    | 9, hq => cases hq; exact hK9
    | 10, hq => cases hq; exact hK10
    | k + 11, hq => simp [vwCl] at hq
  obtain ⟨a0, hA1, hF0⟩ := arrI (ty := .int) (fun C h => by cases h) (hts _ (ww_tbl ac_int))
  obtain ⟨a1, hA2, hF1⟩ := arrI (ty := .char) (fun C h => by cases h) (hts _ (ww_tbl ac_char))
  obtain ⟨a2, hA3, hF2⟩ := arrI (ty := .boolean) (fun C h => by cases h) (hts _ (ww_tbl ac_boolean))
  have ho3 : (Cond.arrayOver (.object "BellFoundry$Lot")).before #[Value.ref b] s = true := hts _ (List.mem_append_right _ (List.mem_of_getElem? (i := 49) (by decide +kernel)))
  obtain ⟨a3, hA4⟩ := arrR ho3
  have ho4 : (Cond.arrayOver (.object "BellFoundry$Bell")).before #[Value.ref b] s = true := hts _ (List.mem_append_right _ (List.mem_of_getElem? (i := 88) (by decide +kernel)))
  obtain ⟨a4, hA5⟩ := arrR ho4
  have ho5 : (Cond.arrayOver (.object "BellFoundry$Order")).before #[Value.ref b] s = true := hts _ (List.mem_append_right _ (List.mem_of_getElem? (i := 90) (by decide +kernel)))
  obtain ⟨a5, hA6⟩ := arrR ho5
  have ho6 : (Cond.arrayOver (.object "BellFoundry$Works")).before #[Value.ref b] s = true := hts _ (List.mem_append_right _ (List.mem_of_getElem? (i := 218) (by decide +kernel)))
  obtain ⟨a6, hA7⟩ := arrR ho6
  have ho7 : (Cond.arrayOver (.object "BellFoundry$Load")).before #[Value.ref b] s = true := hts _ (List.mem_append_right _ (List.mem_of_getElem? (i := 268) (by decide +kernel)))
  obtain ⟨a7, hA8⟩ := arrR ho7
  obtain ⟨cy, hcy⟩ : ∃ cy : Nat → ClassId, cy 0 = a0 ∧ cy 1 = a1 ∧ cy 2 = a2 ∧ cy 3 = a3 ∧ cy 4 = a4 ∧ cy 5 = a5 ∧ cy 6 = a6 ∧ cy 7 = a7 := ⟨fun k => match k with | 0 => a0 | 1 => a1 | 2 => a2 | 3 => a3 | 4 => a4 | 5 => a5 | 6 => a6 | _ => a7, rfl, rfl, rfl, rfl, rfl, rfl, rfl, rfl⟩
  obtain ⟨e0, e1, e2, e3, e4, e5, e6, e7⟩ := hcy
  have hK : va_K (dC, dI) vwCl (TY cy) s := by
    refine ⟨hKc, fun k q h => ?_⟩
    match k, h with
    | 0, h => cases h; rw [e0]; exact hA1
    | 1, h => cases h; rw [e1]; exact hA2
    | 2, h => cases h; rw [e2]; exact hA3
    | 3, h => cases h; rw [e3]; exact hA4
    | 4, h => cases h; rw [e4]; exact hA5
    | 5, h => cases h; rw [e5]; exact hA6
    | 6, h => cases h; rw [e6]; exact hA7
    | 7, h => cases h; rw [e7]; exact hA8
    | k + 8, h => simp at h
  obtain ⟨s0, z0, v0, cell0, w0⟩ := statOf (nm := "SETTING_FIRST") (N := 7) (f := sFirst) (A := fun q : Nat => s.heap.size ≤ q) (by decide) (hts _ (List.mem_append_right _ (List.mem_of_getElem? (i := 79) (by decide +kernel)))) hini (hs _ (by decide +kernel)) (hs _ (by decide +kernel)) (fun j hj => by rcases (show j = 0 ∨ j = 1 ∨ j = 2 ∨ j = 3 ∨ j = 4 ∨ j = 5 ∨ j = 6 by omega) with rfl | rfl | rfl | rfl | rfl | rfl | rfl <;> exact hs _ (by decide +kernel)) hA0
  obtain ⟨s1, z1, v1, cell1, w1⟩ := statOf (nm := "SETTING_FROM") (N := 7) (f := sFrom) (A := fun q : Nat => s.heap.size ≤ q) (by decide) (hts _ (List.mem_append_right _ (List.mem_of_getElem? (i := 396) (by decide +kernel)))) hini (hs _ (by decide +kernel)) (hs _ (by decide +kernel)) (fun j hj => by rcases (show j = 0 ∨ j = 1 ∨ j = 2 ∨ j = 3 ∨ j = 4 ∨ j = 5 ∨ j = 6 by omega) with rfl | rfl | rfl | rfl | rfl | rfl | rfl <;> exact hs _ (by decide +kernel)) hA0
  obtain ⟨s2, z2, v2, cell2, w2⟩ := statOf (nm := "SETTING_TO") (N := 7) (f := sTo) (A := fun q : Nat => s.heap.size ≤ q) (by decide) (hts _ (List.mem_append_right _ (List.mem_of_getElem? (i := 398) (by decide +kernel)))) hini (hs _ (by decide +kernel)) (hs _ (by decide +kernel)) (fun j hj => by rcases (show j = 0 ∨ j = 1 ∨ j = 2 ∨ j = 3 ∨ j = 4 ∨ j = 5 ∨ j = 6 by omega) with rfl | rfl | rfl | rfl | rfl | rfl | rfl <;> exact hs _ (by decide +kernel)) hA0
  obtain ⟨s3, z3, v3, cell3, w3⟩ := statOf (nm := "FACTORS") (N := 4) (f := sFac) (A := fun q : Nat => s.heap.size ≤ q) (by decide) (hts _ (List.mem_append_right _ (List.mem_of_getElem? (i := 558) (by decide +kernel)))) hini (hs _ (by decide +kernel)) (hs _ (by decide +kernel)) (fun j hj => by rcases (show j = 0 ∨ j = 1 ∨ j = 2 ∨ j = 3 by omega) with rfl | rfl | rfl | rfl <;> exact hs _ (by decide +kernel)) hA0
  obtain ⟨tS, t0, t1, t2, t3⟩ : ∃ tS : Nat → Nat, tS 0 = s0 ∧ tS 1 = s1 ∧ tS 2 = s2 ∧ tS 3 = s3 := ⟨fun k => match k with | 0 => s0 | 1 => s1 | 2 => s2 | _ => s3, rfl, rfl, rfl, rfl⟩
  obtain ⟨g, hg⟩ : ∃ g : GD, g = ((dC, dI), cy, s.heap.size, tS) := ⟨_, rfl⟩
  have hzz : zz g = s.heap.size := by rw [hg]
  have hAA : AU g = fun q : Nat => s.heap.size ≤ q := by rw [hg]
  have hST : ST g s s.heap := by
    subst hg
    refine ⟨⟨?_, ?_⟩, ⟨?_, ?_⟩, ⟨?_, ?_⟩, ?_, ?_⟩
    · show va_Z _ _ _ (.ref (tS 0)) _ _ _; rw [t0]; exact z0
    · show va_T _ (tS 0) _ _ _ _ _; rw [t0]; exact v0
    · show va_Z _ _ _ (.ref (tS 1)) _ _ _; rw [t1]; exact z1
    · show va_T _ (tS 1) _ _ _ _ _; rw [t1]; exact v1
    · show va_Z _ _ _ (.ref (tS 2)) _ _ _; rw [t2]; exact z2
    · show va_T _ (tS 2) _ _ _ _ _; rw [t2]; exact v2
    · show va_Z _ _ _ (.ref (tS 3)) _ _ _; rw [t3]; exact z3
    · show va_T _ (tS 3) _ _ _ _ _; rw [t3]; exact v3
  have hNX : NX s := ⟨fun q hq => va_Nw.of rfl (hts _ (nf_tbl q hq)), fun q hq => va_Nw.of rfl (hts _ (nm_tbl q hq))⟩
  have C : CX p s m #[Value.ref b] c cL_law 10 RL g := by
    subst hg
    exact ⟨hx, hb, hml, hown, fun w h => hts w (ww_tbl h), hK, hST, hNX, Nat.le_refl _⟩
  have hXX : AXc g s s.heap := by
    obtain ⟨w1, w2, w3, w4, w5, w6⟩ := w0
    have hex : (Cond.exactly (.static "BellFoundry" "SETTING_FIRST" "[I") "[I").before #[Value.ref b] s = true := hs _ (by decide +kernel)
    obtain ⟨ax, cx, cellx, kx, x1, x2, x3, x4, x5, x6, -⟩ := Cond.exactly_spec hex
    cases w6.symm.trans x1
    cases w1.symm.trans x3
    subst hg
    refine ⟨⟨⟨ho3, ho4, ho5, ho6, ho7⟩, va_Nw.of rfl (hts _ (List.mem_append_right _ (List.mem_of_getElem? (i := 85) (by decide +kernel))))⟩, ⟨cell0, ?_, w2, w3, ?_, ?_, w4, w5, ?_⟩, ?_, ?_, ?_⟩
    · show s.heap[tS 0]? = _; rw [t0]; exact w1
    · rw [x2, x6]
    · show cell0.cls = cy 0
      rw [e0, x6]
      exact Option.some.inj (x2.symm.trans hF0)
    · show ¬ s.heap.size ≤ tS 0
      rw [t0]
      exact Nat.not_le.mpr (Array.getElem?_eq_some_iff.mp w1).1
    · show s.vm.findClass "[I" = some (cy 0); rw [e0]; exact hF0
    · show s.vm.findClass "[C" = some (cy 1); rw [e1]; exact hF1
    · show s.vm.findClass "[Z" = some (cy 2); rw [e2]; exact hF2
  have hl := lv_entry ([.ref b]) (n := 10) (Nat.le_of_ble_eq_true rfl)
  rw [lg_entry_eq]
  generalize (lg_sl ([.ref b]) ++ List.replicate (10 - (lg_sl ([.ref b])).length) Slot.unset).toArray = ls at hl ⊢
  have hl : lv_has ls 10 [(0, .ref b)] := hl
  have hS : sU g s s.heap [] := va_S.rf
  have hN : WN g 0 ct0 s.heap := ⟨fun k q h => by simp [wlN] at h, by rw [hzz]; rfl⟩
  obtain ⟨ct1, hc1, hsame⟩ := ctor_pure
  refine nNew (ty := tyX10) (ci := 10) C hN hS [.inr none, .inr none, .inr none, .inr none, .inr none, .inl 0] inX10 tyX10_ok cl_L_14 is_X10 in_X10 rfl (fun j hj => by rcases (show j = 0 ∨ j = 1 ∨ j = 2 ∨ j = 3 ∨ j = 4 ∨ j = 5 by omega) with rfl | rfl | rfl | rfl | rfl | rfl <;> rfl) ⟨Nat.le_of_ble_eq_true rfl, Nat.le_of_ble_eq_true rfl⟩ dL_law_0 (fun H hN hS => ?_)
  refine lv_dup hx hb dL_law_3 rfl ?_
  refine nBack (runI (rest := [rf g 0]) C hXX hN hS (c_X10_init l g 1 _ 0 _ _ hc1) kI_X10_init ml_L_113 hl.1 rfl (Nat.le_of_ble_eq_true rfl) ⟨Nat.le_of_ble_eq_true rfl, Nat.le_of_ble_eq_true rfl⟩ ⟨Nat.le_of_ble_eq_true rfl, Nat.le_of_ble_eq_true rfl⟩ dL_law_4) hS (fun H locs hN hS => ?_)
  refine lv_astore_n (lv' := [(1, rf g 0), (0, .ref b)]) hx hb dL_law_7 rfl hl (by decide) rfl (fun ls hl => ?_)
  have hW : Wd g M0 H := by
    intro k q hk
    have hk9 : k < 1697 := by have := (List.getElem?_eq_some_iff.mp hk).1; rwa [wlN_len] at this
    rw [wlN_get hk9] at hk
    cases hk
    rw [← tmC_eq]
    exact sameC_at (hsame k hk9) (hN.1 k _ (wlN_get hk9))
  exact t_L_law_8 l g C hX hbl (by rw [hAA]; exact hA0 b hbl) (fun H locs ls cells slots hc1 hc2 hS => va_forget (fun q hq => by have := hS.2.2 q hq; rw [hAA] at this; exact this) (W.widen (k := 650469) (n := 7150842) hc1 hc2 (lw_ret hx hb hr hlocks dL_law_378))) M0 _ _ (by unfold FU; exact Nat.le_of_ble_eq_true rfl) (by unfold FU; exact Nat.le_of_ble_eq_true rfl) (law_pure xs L hL) H locs hW hS ls hl
-- ===== YOUR PART ENDS =====
set_option maxHeartbeats 4000000 in
theorem lw_walk (l : Launch) (hflags : l.flags = flags0) (b : Addr) (xs : List Int32) : MetFree l x (headSpec (Jvm.Cond.code x code maxLocals ret :: tables_1) room_1) (lw_P b xs) (fun _ _ _ _ _ => True) lw_Q := by
  refine MetFree.of_bodyS (code := code) (maxLocals := maxLocals) (ret := ret) (by decide) ?_ ?_
  · intro args s m h hn
    obtain ⟨meth, c, h1, h2, h3, h4, h5, h6, -, -⟩ := Cond.code_spec hn (atoms_spec (ws := Jvm.Cond.code x code maxLocals ret :: tables_1) h _ List.mem_cons_self)
    exact ⟨meth, c, h1, h2, h3, h4, h5, h6⟩
  · intro p e s m args below meth c s₁ B hml0 hP _
    obtain ⟨rfl, hx, hbd, hgv⟩ := hP
    obtain ⟨scr, harrAt, hlist, hof, hsmall⟩ := hx
    obtain ⟨hcb, hkn, -, -⟩ := State.arrayAt?_spec harrAt
    have hown : s.vm.findClass R_law = some m.cls := findClass_of_methodNamed B.named
    have hts0 : ∀ c ∈ (Jvm.Cond.code x code maxLocals ret :: tables_1), c.before #[Value.ref b] s = true := atoms_spec (ws := Jvm.Cond.code x code maxLocals ret :: tables_1) B.pre
    have hts : ∀ w ∈ lw_tbl, w.before #[Value.ref b] s = true := k2_hts_sels lw_privs (fun w hw => hts0 w (List.mem_cons_of_mem _ hw)) lw_privs_ok
    have hml : c.maxLocals = 10 := B.maxLocals_eq (hts0 _ List.mem_cons_self)
    have X₀ : Stand p l e room_1 s m #[Value.ref b] below meth c s₁ [] 0 0 := Stand.of_body B
    have hh0 : s₁.heap = s.heap := by rw [B.state]; rfl
    have hsz : scr.slots.size = xs.length := by rw [← Array.length_toList, hlist, List.length_map]
    have hval : ∀ j : Nat, j < xs.length → scr.slots[j]? = some (.int (xs.getD j 0)) := fun j hj => by
      rw [← Array.getElem?_toList, hlist]
      simp [hj]
    have hbl : b < s.heap.size := (Array.getElem?_eq_some_iff.mp hcb).1
    have hX : va_X b xs.length (fun j => xs.getD j 0) s s.heap := ⟨scr, hcb, hof, hkn, hsz, hval⟩
    have K : W p l e room_1 s m #[Value.ref b] below meth c s₁.heap [] 0 0 (lw_Z below #[Value.ref b] s) (entryFrame m ([Value.ref b] : List Value).toArray 10) := by
      rw [hh0]
      exact whole_start l hflags hbd ⟨B.exec, B.bytes, B.returns, hml, hown, hts, hX, hbl, B.notSynchronized, hgv⟩
    obtain ⟨t, a1, o, b1, b2, b3⟩ := K s₁ rfl X₀
    exact ⟨t, o, a1, b1, b2, b3⟩
theorem lw_pre_spec {args : Array Value} {s : State} (h : (Jvm.Cond.and given_1 narrow_1).before args s = true) (hr : rest_1_c.before args s = true) : ∃ (b : Addr) (xs : List Int32), lw_P b xs args s := by
  have hs := flat_of_before _ h
  have hq := flat_of_before _ hr
  have hc : (Cond.count 1).before args s = true := hs _ (by decide +kernel)
  have harr : (Cond.arrayOf (.arg 0) .int).before args s = true := hs _ (by decide +kernel)
  have hle : (Cond.le (.length (.arg 0)) (.int 260)).before args s = true := hs _ (by decide +kernel)
  have hlen : (Cond.isInt (.length (.arg 0))).before args s = true := hq _ (by decide +kernel)
  have hall : (Cond.all (.arg 0) (.isInt (.elem (.arg 0) (.index 0)))).before args s = true := hq _ (by decide +kernel)
  obtain ⟨b, xs, hb, hx⟩ := State.ints_of_pre rfl harr hlen hall
  have hsm : xs.length < 2 ^ 31 := hx.choose_spec.2.2.2
  have hev : (Term.length (.arg 0)).eval args s none [] s = some (.int xs.length.toInt32) := hx.length_eval hb
  have hv := Cond.le_ints hev (show (Term.int 260).eval args s none [] s = some (.int 260) from rfl)
  have hd : xs.length.toInt32 ≤ 260 := by
    simpa [Cond.before, Cond.holds, hv] using hle
  have hN : xs.length ≤ 260 := (Int32.ofNat_le_ofNat hsm (by decide)).mp (show Int32.ofNat xs.length ≤ Int32.ofNat 260 from hd)
  exact ⟨b, xs, Cond.one_arg hc (show args[0]? = some (.ref b) from hb), hx, hN, h⟩
theorem lw_comes (l : Launch) (hflags : l.flags = flags0) : Comes l x (Jvm.Cond.code x code maxLocals ret :: tables_1) room_1 (fun tb e args s => Calls_1 tb e args s ∧ rest_1 tb e args s ∧ Pre_1 tb e args s)
    (fun _ _ args s o t => lw_Q args s o t) := by
  intro p e ha hc hk s m args below hf hfit hheap happ hpre
  obtain ⟨b, xs, hP⟩ := lw_pre_spec hpre.2.2 hpre.2.1
  obtain ⟨k, o, h1, h2, h3, hQ⟩ := lw_walk l hflags b xs p e ha hc hk s m args below hf ((Spec.applies_iff_loose hf).mp happ).1 hP trivial
  exact ⟨k, o, h1, h2, h3, hQ⟩
theorem lw_frame {s t : State} {o : Outcome} {args : Array Value} (h : Framed s o t [] 650469 7150842) :
    Framed s o t (fieldLocs frame_1_writes args s ++ arrayLocs frame_1_arrays args s ++ staticLocs frame_1_statics s) 650469 7150842 := h
theorem lw_limb (L : Cond) (hL : ∀ (args : Array Value) (s t : State), L.after args s (.returned (some (.int 1))) t = true) :
    ArmFor flags0 classFile x code maxLocals ret World_1 tables_1 room_1 Calls_1 rest_1 Pre_1
      (fun tb e a s o t => postC L tb e a s o t ∧ Framed s o t (fieldLocs frame_1_writes a s ++ arrayLocs frame_1_arrays a s ++ staticLocs frame_1_statics s) 650469 7150842) := by
  intro l hflags _ _ p e ha hc hk s m args below hf hfit hheap happ hpre
  obtain ⟨k, o, h1, h2, h3, rfl, hF⟩ := lw_comes l hflags p e ha hc hk s m args below hf hfit hheap happ hpre
  exact ⟨k, _, h1, h2, h3, hL args s _, lw_frame hF⟩
theorem i_vc : Claimed_1_1 ∧ Claimed_1_2 := ⟨lw_limb limb_1_1 (fun args s t => by simp [limb_1_1, Cond.after, Cond.holds, Cond.value]), lw_limb limb_1_2 (fun args s t => Cond.after_iff.mpr (by
  first | (rw [show limb_1_2 = Cond.eq .result (.int 1) from rfl, Cond.eq_ints (x := 1) (y := 1) rfl rfl]; simp; done) | (simp [limb_1_2, Cond.value, Term.eval]; done)))⟩

