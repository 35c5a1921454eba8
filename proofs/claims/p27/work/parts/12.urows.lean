/-! ROWS for the law's own methods: their frame is all from z on (AU); the class's methods keep what is outside its cells. -/
abbrev RN (f lc mc ms : Nat) : Room := { frames := f, cells := mc, slots := ms, locals := lc }
def QU (g : GD) (post : Value → MM → Prop) : Array Value → State → Outcome → State → Prop := fun _ st oc t => (∃ (v : Value) (M' : MM), oc = .returned (some v) ∧ post v M' ∧ Wd g M' t.heap) ∧ va_F (AU g) st t
theorem diaT {P : Prop} [Decidable P] {A B : Int32} {F : Int32 → Prop} {T1 T2 T0 : Prop} (row : (P → T1) → (¬ P → T2) → T0) (p1 : F A → T1) (p2 : F B → T2) (k : F (if P then A else B)) : T0 :=
  row (fun c => p1 (by rw [if_pos c] at k; exact k)) (fun c => p2 (by rw [if_neg c] at k; exact k))
theorem diaF {P : Prop} [Decidable P] {A B : Int32} {F : Int32 → Prop} {T1 T2 T0 : Prop} (row : (¬ P → T1) → (P → T2) → T0) (p1 : F B → T1) (p2 : F A → T2) (k : F (if P then A else B)) : T0 :=
  row (fun c => p1 (by rw [if_neg c] at k; exact k)) (fun c => p2 (by rw [if_pos c] at k; exact k))
/-- the law's own row, an array of twelve, at wq -/
def YW (g : GD) (s : State) (wq : Nat) (F : Nat → Int32) (H : Heap) : Prop := va_at g.1 vwCl (wq, aI g 12 F) H ∧ ¬ AA g wq ∧ s.heap.size ≤ wq ∧ zz g ≤ wq
theorem YW.kept {g : GD} {s : State} {wq : Nat} {F : Nat → Int32} {H H1 : Heap} (h : YW g s wq F H) (hq : ∀ q : Nat, q < H.size → ¬ AA g q → H1[q]? = H[q]?) : YW g s wq F H1 := ⟨h.1.kept (hq wq h.1.lt h.2.1), h.2⟩
section URW
variable {p : Program} {l : Launch} {e : Env} {R : Room} {s : State} {m : MethodId} {args : Array Value} {below : List Frame} {meth : Method} {c : Code} {H : Heap} {locs : List Loc} {cells slots : Nat} {Q : State → Prop}
variable {cc : ByteArray} {pc : Nat} {ls : Array Slot} {rest : List Value} {g : GD} {M : MM} {nL : Nat} {own : String}
theorem rIU {post : Value → MM → Prop} {x : Int32} (C : CX p s m args c cc nL own g) (hr : meth.sig.returnType = some .int) (hk : meth.locks = false) (hd : decode cc pc = .ok (.ireturn, 1)) (hW : Wd g M H) (hS : sU g s H locs) (hp : post (.int x) M) : W p l e R s m args below meth c H locs cells slots (MQ below (QU g post) args s cells slots (AU g)) (F0 m pc ls [.int x]) :=
  W.iret C.1 C.2.1 hr (fun t ht hw => ⟨⟨_, M, rfl, hp, by rw [ht]; exact hW⟩, hS.F ht⟩) hS.2.2 hd hk
theorem rZU {post : Value → MM → Prop} {x : Int32} (C : CX p s m args c cc nL own g) (hr : meth.sig.returnType = some .boolean) (hk : meth.locks = false) (hd : decode cc pc = .ok (.ireturn, 1)) (hW : Wd g M H) (hS : sU g s H locs) (h01 : narrow .boolean (.int x) = .int x) (hp : post (.int x) M) : W p l e R s m args below meth c H locs cells slots (MQ below (QU g post) args s cells slots (AU g)) (F0 m pc ls [.int x]) :=
  W.zret C.1 C.2.1 hr h01 (fun t ht hw => ⟨⟨_, M, rfl, hp, by rw [ht]; exact hW⟩, hS.F ht⟩) hS.2.2 hd hk
theorem rLU {post : Value → MM → Prop} {x : Int64} (C : CX p s m args c cc nL own g) (hr : meth.sig.returnType = some .long) (hk : meth.locks = false) (hd : decode cc pc = .ok (.lreturn, 1)) (hW : Wd g M H) (hS : sU g s H locs) (hp : post (.long x) M) : W p l e R s m args below meth c H locs cells slots (MQ below (QU g post) args s cells slots (AU g)) (F0 m pc ls [.long x]) :=
  W.lret C.1 C.2.1 hr (fun t ht hw => ⟨⟨_, M, rfl, hp, by rw [ht]; exact hW⟩, hS.F ht⟩) hS.2.2 hd hk
/-- behind a call of the class -/
theorem cBackC {post : Value → MM → Prop} {st0 : List Value} {a : Array Value} (hz : zz g ≤ s.heap.size) (hr : va_Run p l e R s m args below meth c H locs cells slots 0 0 (F0 m pc ls st0) rest (QQ g post a) (AA g)) (hS : sU g s H locs)
    (kk : ∀ (v : Value) (M' : MM) (H1 : Heap) (locs1 : List Loc), post v M' → Wd g M' H1 → sU g s H1 locs1 → (∀ q : Nat, q < H.size → ¬ AA g q → H1[q]? = H[q]?) → W p l e R s m args below meth c H1 locs1 cells slots Q (F0 m (pc + 3) ls (v :: rest))) : W p l e R s m args below meth c H locs cells slots Q (F0 m pc ls st0) := by
  intro T hT X
  obtain ⟨v, st₀, t, T', L, h0, X', hL, e1, e2, ⟨⟨r, M', hv, hp, hb⟩, hz1, hk⟩, st⟩ := hr T hT X
  cases hv
  rw [h0] at hz1 hk
  obtain ⟨t2, a1, b1⟩ := kk r M' T'.heap (locs ++ L) hp (by rw [e1]; exact hb)
    ⟨Nat.le_trans hS.1 (by rw [e1]; exact hz1), fun q h1 h2 => by rw [e1, hk q (Nat.lt_of_lt_of_le h1 hS.1) (fun h => h2 h.1)]; exact hS.2.1 q h1 h2, fun q hq => by
      rcases List.mem_append.mp hq with h | h
      · exact hS.2.2 q h
      · exact (hL q h).1⟩ (fun q h1 h2 => by rw [e1]; exact hk q h1 h2) T' rfl X'
  exact ⟨t2, st t2 a1, b1⟩
/-- behind a call of the law's own -/
theorem cBackN {mc ms : Nat} {post : Value → MM → Prop} {st0 : List Value} {a : Array Value} (hz : zz g ≤ s.heap.size) (hr : va_Run p l e R s m args below meth c H locs cells slots mc ms (F0 m pc ls st0) rest (QU g post a) (AU g)) (hS : sU g s H locs)
    (kk : ∀ (v : Value) (M' : MM) (H1 : Heap) (locs1 : List Loc), post v M' → Wd g M' H1 → sU g s H1 locs1 → W p l e R s m args below meth c H1 locs1 (cells + mc) (slots + ms) Q (F0 m (pc + 3) ls (v :: rest))) : W p l e R s m args below meth c H locs cells slots Q (F0 m pc ls st0) := by
  intro T hT X
  obtain ⟨v, st₀, t, T', L, h0, X', hL, e1, e2, ⟨⟨r, M', hv, hp, hb⟩, hz1, hk⟩, st⟩ := hr T hT X
  cases hv
  rw [h0] at hz1 hk
  obtain ⟨t2, a1, b1⟩ := kk r M' T'.heap (locs ++ L) hp (by rw [e1]; exact hb)
    ⟨Nat.le_trans hS.1 (by rw [e1]; exact hz1), fun q h1 h2 => by rw [e1, hk q (Nat.lt_of_lt_of_le h1 hS.1) h2]; exact hS.2.1 q h1 h2, fun q hq => by
      rcases List.mem_append.mp hq with h | h
      · exact hS.2.2 q h
      · exact hL q h⟩ T' rfl X'
  exact ⟨t2, st t2 a1, b1⟩
theorem cBackL {post : Value → MM → Prop} {st0 : List Value} {a : Array Value} (hz : zz g ≤ s.heap.size) (hr : va_Run p l e R s m args below meth c H locs cells slots 0 0 (F0 m pc ls st0) rest (QU g post a) (AU g)) (hS : sU g s H locs)
    (kk : ∀ (v : Value) (M' : MM) (H1 : Heap) (locs1 : List Loc), post v M' → Wd g M' H1 → sU g s H1 locs1 → W p l e R s m args below meth c H1 locs1 cells slots Q (F0 m (pc + 3) ls (v :: rest))) : W p l e R s m args below meth c H locs cells slots Q (F0 m pc ls st0) := cBackN hz hr hS kk
theorem runVU {y : MethodName} {bytes : ByteArray} {maxL n index f lc o ci : Nat} {ret : Option FieldType} {Qc : Array Value → State → Outcome → State → Prop} {As : List Value} {r : vw_C} {fs : List Value} {st0 : List Value} (C : CX p s m args c cc nL own g) (hW : Wd g M H) (hS : sU g s H locs) (hM : Met l y (wm y bytes maxL ret) (RM f lc) (va_Pc (rf g o :: As) (WDp g M)) Qc 0 0 (AA g)) (hv : VW y bytes maxL ret n) (hl : Cond.methodLink own index y ∈ WW) (ho : o < 1697) (he : tm g M o = .inr (ci, fs)) (hc : vwCl[ci]? = some r) (hy : r.1 = y.cls) (hn : As.length = n) (hsz : ls.size = nL) (hst : st0 = As.reverse ++ rf g o :: rest) (hrm : (rest.map fun v => v.category).sum ≤ 8) (hR : f + 1 ≤ R.frames ∧ 8 + (maxL + 11) + lc ≤ R.locals) (hcs : cells ≤ R.cells ∧ slots ≤ R.slots) (hd : decode cc pc = .ok (.invokevirtual index, 3)) : va_Run p l e R s m args below meth c H locs cells slots 0 0 (F0 m pc ls st0) rest (Qc (rf g o :: As).toArray) (AA g) := by
  obtain ⟨v1, v2, v3, v4, v5, v6, v7⟩ := hv
  have ok : ∀ w ∈ WW, w.before args s = true := C.2.2.2.2.1
  refine va_runV (Ts := WW) (C := y.cls) ⟨C.1, C.2.1, C.2.2.1, C.2.2.2.1, ok⟩ hM ⟨callB_of n ok (wm_good v1) rfl rfl rfl (ok _ v4) (ok _ hl) ⟨v5, v6, v7⟩ hR, ok _ v2, ok _ v3⟩ ⟨WDp_blind, ?_, fun U hU hw => ⟨rfl, C.preU hW hS hU hw⟩⟩ rfl hn hsz hst (lv_room hrm) hd hcs
  rw [← hy]
  exact recv C hW ho he hc
theorem runSU {y : MethodName} {bytes : ByteArray} {maxL n index f lc mc ms : Nat} {ret : Option FieldType} {Qc : Array Value → State → Outcome → State → Prop} {As : List Value} {st0 : List Value} (C : CX p s m args c cc nL own g) (hW : Wd g M H) (hS : sU g s H locs) (hM : Met l y (wm y bytes maxL ret) { frames := f, cells := mc, slots := ms, locals := lc } (va_Pc As (WDp g M)) Qc mc ms (AU g)) (hv : SW y bytes maxL ret n) (hl : Cond.methodLink own index y ∈ WW) (hn : As.length = n) (hsz : ls.size = nL) (hst : st0 = As.reverse ++ rest) (hrm : (rest.map fun v => v.category).sum ≤ 8) (hR : f + 1 ≤ R.frames ∧ 8 + (maxL + 11) + lc ≤ R.locals) (hcs : cells + mc ≤ R.cells ∧ slots + ms ≤ R.slots) (hd : decode cc pc = .ok (.invokestatic index, 3)) : va_Run p l e R s m args below meth c H locs cells slots mc ms (F0 m pc ls st0) rest (Qc As.toArray) (AU g) := by
  obtain ⟨v1, v2, v4, v5, v6, v7⟩ := hv
  have ok : ∀ w ∈ WW, w.before args s = true := C.2.2.2.2.1
  exact va_runS (Ts := WW) ⟨C.1, C.2.1, C.2.2.1, C.2.2.2.1, ok⟩ hM ⟨callB_of n ok (wm_good v1) rfl rfl rfl (ok _ v4) (ok _ hl) ⟨v5, v6, v7⟩ hR, ok _ v2⟩ ⟨WDp_blind, fun U hU hw => ⟨rfl, C.preU hW hS hU hw⟩⟩ rfl hn hsz hst (lv_room hrm) hd hcs
theorem rNewW (C : CX p s m args c cc nL own g) (hW : Wd g M H) (hS : sU g s H locs) (hce : 1 ≤ R.cells ∧ 12 ≤ R.slots) (hd : decode cc pc = .ok (.newarray .int, 2))
    (kk : ∀ (wq : Nat) (H1 : Heap), Wd g M H1 → sU g s H1 locs → YW g s wq (fun _ => 0) H1 → W p l e R s m args below meth c H1 locs 1 12 Q (F0 m (pc + 2) ls (.ref wq :: rest))) : W p l e R s m args below meth c H locs 0 0 Q (F0 m pc ls (.int 12 :: rest)) := by
  have hts := C.2.2.2.2.1
  have hz0 : zz g + 1696 < H.size := (hW 1696 _ (wlN_get (by decide))).lt
  refine va_newaK (atype := .int) (N := 12) C.1 C.2.1 (hts _ ac_int) rfl hd rfl (by decide) rfl (by decide) (by show 0 + 1 ≤ _; exact hce.1) (by show 0 + 12 ≤ _; exact hce.2) rfl fun H1 cA e1 z1 o1 hAr hNm => ?_
  have hcA : cA = g.2.1 0 := Option.some.inj (hNm.symm.trans (C.2.2.2.2.2.1.2 0 _ rfl).2)
  subst hcA
  refine kk H.size H1 (hW.kept (fun k q hk => o1 q.1 (hW k q hk).lt)) ⟨Nat.le_trans hS.1 (by omega), fun q h1 h2 => (o1 q (Nat.lt_of_lt_of_le h1 hS.1)).trans (hS.2.1 q h1 h2), hS.2.2⟩ ⟨?_, fun q => by have := q.2; omega, hS.1, by omega⟩
  show H1[H.size]? = some (vp_cell _ _)
  rw [e1]
  rfl
theorem rIstW (C : CX p s m args c cc nL own g) (hW : Wd g M H) (hS : sU g s H locs) {wq : Nat} {F : Nat → Int32} {i x : Int32} (hY : YW g s wq F H) (hin : vin i 12) (hd : decode cc pc = .ok (.iastore, 1))
    (kk : ∀ (H1 : Heap) (locs1 : List Loc), Wd g M H1 → sU g s H1 locs1 → YW g s wq (upd F i.toNatClampNeg x) H1 → W p l e R s m args below meth c H1 locs1 cells slots Q (F0 m (pc + 1) ls rest)) : W p l e R s m args below meth c H locs cells slots Q (F0 m pc ls (.int x :: .int i :: .ref wq :: rest)) := by
  obtain ⟨y1, y2, y3, y4⟩ := hY
  refine W.iast C.1 C.2.1 y1 ((C.2.2.2.2.2.1.2 0 _ rfl).1 12 (fun j => .int (F j))) (fun q => by cases q) (by show ¬ (i < 0 ∨ (arrV _ _ _).slots.size ≤ _); rw [arrV_size]; exact hin) rfl rfl hd fun H1 e z oq => ?_
  refine kk H1 _ (hW.kept (fun k q hk => oq q.1 (fun h => y2 (by have h' : q.1 = wq := h; rw [← h']; exact (wlN_DA g _).2 k q hk)))) ⟨by rw [z]; exact hS.1, fun q h1 h2 => (oq q (show q ≠ wq by omega)).trans (hS.2.1 q h1 h2), fun q hq => by
    rcases List.mem_append.mp hq with h | h
    · exact hS.2.2 q h
    · rw [List.mem_singleton.mp h]; exact y4⟩ ⟨?_, y2, y3, y4⟩
  show H1[wq]? = some (vp_cell _ _)
  rw [e]
  rw [vp_cell_i, vp_cell_i, arrV_store]
  congr 2
  funext q
  by_cases hq : q = i.toNatClampNeg
  · subst hq
    simp [updV, upd]
  · simp [updV, upd, hq]
theorem rIldW (C : CX p s m args c cc nL own g) {wq : Nat} {F : Nat → Int32} {i : Int32} (hY : YW g s wq F H) (hin : vin i 12) (hd : decode cc pc = .ok (.iaload, 1))
    (kk : W p l e R s m args below meth c H locs cells slots Q (F0 m (pc + 1) ls (.int (F i.toNatClampNeg) :: rest))) : W p l e R s m args below meth c H locs cells slots Q (F0 m pc ls (.int i :: .ref wq :: rest)) := by
  have hP : va_P g.1 vwCl [(wq, aI g 12 F)] H := fun k q hk => by
    have hz : k < 1 := (List.getElem?_eq_some_iff.mp hk).1
    rw [show k = 0 by omega] at hk
    cases hk
    exact hY.1
  exact va_iald C.1 C.2.1 C.2.2.2.2.2.1 hP 0 0 rfl rfl hin hd kk
end URW
theorem mkU {l : Launch} {y : MethodName} {cc : ByteArray} {maxL f lc mc ms : Nat} {ret : Option FieldType} {g : GD} {M : MM} {av : List Value} {Qc : Array Value → State → Outcome → State → Prop} (hy : plainName y.cls = true) (hlen : (lg_sl av).length ≤ maxL)
    (body : ∀ p e s m below meth c, CX p s m av.toArray c cc maxL y.cls g → meth.sig.returnType = ret → meth.locks = false → Wd g M s.heap → sU g s s.heap [] → ∀ ls : Array Slot, lv_has ls maxL (lv_args 0 av) → W p l e { frames := f, cells := mc, slots := ms, locals := lc } s m av.toArray below meth c s.heap [] 0 0 (MQ below Qc av.toArray s mc ms (AU g)) (F0 m 0 ls [])) : Met l y (wm y cc maxL ret) { frames := f, cells := mc, slots := ms, locals := lc } (va_Pc av (WDp g M)) Qc mc ms (AU g) := by
  refine Met.ofW (cc := cc) (maxL := maxL) (ret := ret) hy rfl ?_
  intro p e s m args below meth c s₁ B hml hv
  obtain ⟨rfl, hW, hK, hT, hN, hz⟩ := hv
  have hts := atoms_spec (ws := wm y cc maxL ret) B.pre
  have C : CX p s m av.toArray c cc maxL y.cls g := ⟨B.exec, B.bytes, hml, findClass_of_methodNamed B.named, fun w h => hts w (List.mem_cons_of_mem _ h), hK, hT, hN, hz⟩
  rw [lg_entry_eq]
  exact body p e s m below meth c C B.returns B.notSynchronized hW va_S.rf _ (lv_entry av hlen)
