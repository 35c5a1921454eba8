/-! CONSTRUCTORS: the world while it grows: n cells from z on, what each holds told by ct : Nat → CE (addresses as numbers of cells). -/
abbrev CV : Type := Int32 ⊕ Option Nat
abbrev CE : Type := (Nat × List CV) ⊕ (Nat × Nat × ((Nat → Int32) ⊕ (Nat → Option Nat)))
def encV (z : Nat) (v : CV) : Value := match v with
  | .inl x => .int x
  | .inr none => .null
  | .inr (some o) => .ref (z + o)
def enc (g : GD) (c : CE) : va_E := match c with
  | .inl (ci, vs) => .inr (ci, vs.map (encV (zz g)))
  | .inr (j, n, .inl f) => .inl (g.2.1 j, n, .inl f)
  | .inr (j, n, .inr f) => .inl (g.2.1 j, n, .inr (.inr (.inr (.inr (fun i => (f i).map (fun o => zz g + o))))))
def fsOf (c : CE) : List CV := match c with
  | .inl (_, vs) => vs
  | .inr _ => []
def isO (c : CE) (ci : Nat) : Bool := match c with
  | .inl (ci', _) => ci' == ci
  | .inr _ => false
def lenOf (c : CE) : Nat := match c with
  | .inl _ => 0
  | .inr (_, n, _) => n
def isI (c : CE) (j : Nat) : Bool := match c with
  | .inr (j', _, .inl _) => j' == j
  | _ => false
def isR (c : CE) (j : Nat) : Bool := match c with
  | .inr (j', _, .inr _) => j' == j
  | _ => false
def ifOf (c : CE) : Nat → Int32 := match c with
  | .inr (_, _, .inl f) => f
  | _ => fun _ => 0
def rfOf (c : CE) : Nat → Option Nat := match c with
  | .inr (_, _, .inr f) => f
  | _ => fun _ => none
def getR (c : CE) (k : Nat) : Option Nat := match (fsOf c)[k]? with
  | some (.inr r) => r
  | _ => none
theorem isO_eq {c : CE} {ci : Nat} (h : isO c ci = true) : c = .inl (ci, fsOf c) := by
  obtain ⟨ci', vs⟩ | x := c
  · simp [isO] at h; subst h; rfl
  · simp [isO] at h
theorem isI_eq {c : CE} {j : Nat} (h : isI c j = true) : c = .inr (j, lenOf c, .inl (ifOf c)) := by
  obtain x | ⟨j', n, f | f⟩ := c
  · simp [isI] at h
  · simp [isI] at h; subst h; rfl
  · simp [isI] at h
theorem isR_eq {c : CE} {j : Nat} (h : isR c j = true) : c = .inr (j, lenOf c, .inr (rfOf c)) := by
  obtain x | ⟨j', n, f | f⟩ := c
  · simp [isR] at h
  · simp [isR] at h
  · simp [isR] at h; subst h; rfl
abbrev CT : Type := Nat → CE
def upC (ct : CT) (o : Nat) (e : CE) : CT := fun q => if q = o then e else ct q
def WN (g : GD) (n : Nat) (ct : CT) (H : Heap) : Prop := va_P g.1 vwCl (wlN (zz g) n (fun o => enc g (ct o))) H ∧ H.size = zz g + n
/-- the row that is cloned, as it stands -/
def CLx (g : GD) (U : State) (H : Heap) : Prop := ∃ cell : Cell, H[g.2.2.2 0]? = some cell ∧ U.isArrayOf cell .int ∧ cell.vm ≠ .unknown ∧ U.vm.findClass "[I" = some cell.cls ∧ cell.cls = g.2.1 0 ∧ cell.slots.size = 7 ∧ (∀ j : Nat, j < 7 → cell.slots[j]? = some (.int (sFirst j))) ∧ ¬ AU g (g.2.2.2 0)
theorem CLx.moved {g : GD} {u U : State} {H : Heap} (hvm : u.vm.Alike U.vm) (h : CLx g u H) : CLx g U H := by
  obtain ⟨cell, h1, h2, h3, h4, h5⟩ := h
  exact ⟨cell, h1, State.isArrayOf_alike hvm h2, h3, by rw [hvm.findClass]; exact h4, h5⟩
theorem CLx.kept {g : GD} {U : State} {H H1 : Heap} (h : CLx g U H) (hq : ∀ a : Nat, a < H.size → ¬ AU g a → H1[a]? = H[a]?) : CLx g U H1 := by
  obtain ⟨cell, h1, h2, h3, h4, h5, h6, h7, h8⟩ := h
  exact ⟨cell, by rw [hq _ (Array.getElem?_eq_some_iff.mp h1).1 h8]; exact h1, h2, h3, h4, h5, h6, h7, h8⟩
def AX (U : State) : Prop := (va_AO "BellFoundry$Lot" U ∧ va_AO "BellFoundry$Bell" U ∧ va_AO "BellFoundry$Order" U ∧ va_AO "BellFoundry$Works" U ∧ va_AO "BellFoundry$Load" U) ∧ va_Nw (.castable "[I" "java/lang/Cloneable") U
def AXc (g : GD) (U : State) (H : Heap) : Prop := AX U ∧ CLx g U H ∧ U.vm.findClass "[I" = some (g.2.1 0) ∧ U.vm.findClass "[C" = some (g.2.1 1) ∧ U.vm.findClass "[Z" = some (g.2.1 2)
def WNp (g : GD) (n : Nat) (ct : CT) (U : State) : Prop := WN g n ct U.heap ∧ va_K g.1 vwCl (TY g.2.1) U ∧ ST g U U.heap ∧ NX U ∧ zz g ≤ U.heap.size ∧ AXc g U U.heap
theorem AX.warm {s U : State} (hW : s.WarmedH U.vm) (h : AX s) : AX U := ⟨⟨va_AO.moved hW.alike h.1.1, va_AO.moved hW.alike h.1.2.1, va_AO.moved hW.alike h.1.2.2.1, va_AO.moved hW.alike h.1.2.2.2.1, va_AO.moved hW.alike h.1.2.2.2.2⟩, va_Nw.warmC hW h.2⟩
theorem AX.same {u U : State} (e : u.vm = U.vm) (hv : u.vm.Alike U.vm) (h : AX u) : AX U := ⟨⟨va_AO.moved hv h.1.1, va_AO.moved hv h.1.2.1, va_AO.moved hv h.1.2.2.1, va_AO.moved hv h.1.2.2.2.1, va_AO.moved hv h.1.2.2.2.2⟩, va_Nw.same rfl e h.2⟩
theorem AXc.warm {g : GD} {s U : State} {H : Heap} (hW : s.WarmedH U.vm) (h : AXc g s H) : AXc g U H := ⟨h.1.warm hW, h.2.1.moved hW.alike, by rw [hW.alike.findClass]; exact h.2.2.1, by rw [hW.alike.findClass]; exact h.2.2.2.1, by rw [hW.alike.findClass]; exact h.2.2.2.2⟩
theorem AXc.same {g : GD} {u U : State} {H : Heap} (e : u.vm = U.vm) (hv : u.vm.Alike U.vm) (h : AXc g u H) : AXc g U H := ⟨h.1.same e hv, h.2.1.moved hv, by rw [hv.findClass]; exact h.2.2.1, by rw [hv.findClass]; exact h.2.2.2.1, by rw [hv.findClass]; exact h.2.2.2.2⟩
theorem AXc.kept {g : GD} {U : State} {H H1 : Heap} (h : AXc g U H) (hq : ∀ a : Nat, a < H.size → ¬ AU g a → H1[a]? = H[a]?) : AXc g U H1 := ⟨h.1, h.2.1.kept hq, h.2.2⟩
theorem WNp_blind {g : GD} {n : Nat} {ct : CT} {av : List Value} : FrameBlind (va_Pc av (WNp g n ct)) := fun a U fr mk q => ⟨q.1, q.2.1, va_K.moved (u := U) (U := U.calling fr mk a) (Vm.Alike.refl U.vm) q.2.2.1, ST.moved (u := U) (U := U.calling fr mk a) (Vm.Alike.refl U.vm) q.2.2.2.1, NX.same (u := U) (U := U.calling fr mk a) rfl q.2.2.2.2.1, q.2.2.2.2.2.1, AXc.same (u := U) (U := U.calling fr mk a) rfl (Vm.Alike.refl U.vm) q.2.2.2.2.2.2⟩
/-- the constructor's end: n2 cells, told by ct2 -/
def QN (g : GD) (n2 : Nat) (ct2 : CT) : Array Value → State → Outcome → State → Prop := fun _ st oc t => (oc = .returned none ∧ WN g n2 ct2 t.heap) ∧ va_F (AU g) st t
section NWS
variable {p : Program} {l : Launch} {e : Env} {R : Room} {s : State} {m : MethodId} {args : Array Value} {below : List Frame} {meth : Method} {c : Code} {H : Heap} {locs : List Loc} {cells slots : Nat} {Q : State → Prop}
variable {cc : ByteArray} {pc : Nat} {ls : Array Slot} {rest : List Value} {g : GD} {n : Nat} {ct : CT} {nL : Nat} {own : String}
theorem wn_push {H1 : Heap} (hN : WN g n ct H) {ce : CE} (e1 : va_at g.1 vwCl (zz g + n, enc g ce) H1) (z1 : H1.size = zz g + n + 1) (o1 : ∀ q, q < zz g + n → H1[q]? = H[q]?) : WN g (n + 1) (upC ct n ce) H1 := by
  refine ⟨?_, by omega⟩
  rw [← wlN_push (ct := fun o => enc g (ct o)) (e := enc g ce) (by simp [upC]) (fun q hq => by simp [upC, Nat.ne_of_lt hq])]
  refine va_P.app (hN.1.kept (fun k q hk => o1 q.1 ?_)) (fun k q hk => ?_)
  · have := (hN.1 k q hk).lt
    rw [hN.2] at this
    exact this
  · have hz : k < 1 := (List.getElem?_eq_some_iff.mp hk).1
    rw [show k = 0 by omega] at hk
    cases hk
    exact e1
theorem wn_set {H1 : Heap} (hN : WN g n ct H) {o : Nat} {ce : CE} (ho : o < n) (e1 : va_at g.1 vwCl (zz g + o, enc g ce) H1) (z1 : H1.size = H.size) (o1 : ∀ q, q ≠ zz g + o → H1[q]? = H[q]?) : WN g n (upC ct o ce) H1 := by
  refine ⟨?_, by rw [z1]; exact hN.2⟩
  have hP := hN.1.set (e := enc g ce) (wlN_D (zz g) n _) (wlN_get ho) e1 o1
  rwa [wlN_set (ct' := fun q => enc g (upC ct o ce q)) (by simp [upC]) (fun q _ hq => by simp [upC, hq])] at hP
theorem nNew (C : CX p s m args c cc nL own g) (hN : WN g n ct H) (hS : sU g s H locs) {index ci N : Nat} {r : String} {T : u_T} {ty : Nat → FieldType} (vs : List CV) (hin : ∀ w ∈ u_ws r T N, w ∈ WW) (hty : ∀ k, k < N → parseFieldDescriptor (T k).2.2.1 = some (ty k)) (hcl : Cond.classLink own index r ∈ WW) (hinst : Cond.instantiable r N ∈ WW) (hini : Cond.initialized r ∈ WW) (hc : vwCl[ci]? = some (r, T, N)) (hfs : ∀ j, j < N → defaultValue (ty j) = vp_V (vs.map (encV (zz g))) j) (hce : cells + 1 ≤ R.cells ∧ slots + N ≤ R.slots) (hd : decode cc pc = .ok (.new index, 3))
    (kk : ∀ H1 : Heap, WN g (n + 1) (upC ct n (.inl (ci, vs))) H1 → sU g s H1 locs → W p l e R s m args below meth c H1 locs (cells + 1) (slots + N) Q (F0 m (pc + 3) ls (rf g n :: rest))) : W p l e R s m args below meth c H locs cells slots Q (F0 m pc ls rest) := by
  have hts := C.2.2.2.2.1
  have hKn := C.2.2.2.2.2.1.1 ci _ hc
  refine W.newcK (h := zz g + n) C.1 C.2.1 C.2.2.2.1 (hts _ hcl) (hts _ hinst) (hts _ hini) rfl hd hce.1 hce.2 hKn.2.1 hN.2 fun H1 kC hkC e1 z1 o1 => ?_
  refine kk H1 (wn_push hN ⟨_, hc, (u_born ty hts hin hKn hkC e1 hty).to hfs⟩ z1 o1) ⟨Nat.le_trans hS.1 (by rw [hN.2]; omega), fun x h1 h2 => (o1 x (by have := hS.1; rw [hN.2] at this; omega)).trans (hS.2.1 x h1 h2), hS.2.2⟩
theorem nNewA (C : CX p s m args c cc nL own g) (hN : WN g n ct H) (hS : sU g s H locs) {atype : ArrayType} {ty : FieldType} {x : Int32} {N : Nat} (j : Nat) (harr : Cond.arrayClass (newarray.typeOf atype) ∈ WW) (hty : newarray.typeOf atype = ty) (ht : (TY g.2.1)[j]? = some (g.2.1 j, ty)) (hr : refKind ty = false) (h0 : defaultValue ty = .int 0) (hn : ¬ x < 0) (hN' : x.toNatClampNeg = N) (hbytes : N * componentBytes ty ≤ 536870912) (hce : cells + 1 ≤ R.cells ∧ slots + N ≤ R.slots) (hd : decode cc pc = .ok (.newarray atype, 2)) (hs1 : ∀ cA : ClassId, s.vm.findClass ("[" ++ ty.toString) = some cA → cA = g.2.1 j)
    (kk : ∀ H1 : Heap, WN g (n + 1) (upC ct n (.inr (j, N, .inl (fun _ => 0)))) H1 → sU g s H1 locs → W p l e R s m args below meth c H1 locs (cells + 1) (slots + N) Q (F0 m (pc + 2) ls (rf g n :: rest))) : W p l e R s m args below meth c H locs cells slots Q (F0 m pc ls (.int x :: rest)) := by
  subst hty
  have hts := C.2.2.2.2.1
  refine va_newaK C.1 C.2.1 (hts _ harr) rfl hd rfl hn hN' hbytes hce.1 hce.2 hN.2 fun H1 cA e1 z1 o1 hAr hNm => ?_
  have hcA := hs1 cA hNm
  subst hcA
  refine kk H1 (wn_push hN ?_ z1 o1) ⟨Nat.le_trans hS.1 (by rw [hN.2]; omega), fun x h1 h2 => (o1 x (by have := hS.1; rw [hN.2] at this; omega)).trans (hS.2.1 x h1 h2), hS.2.2⟩
  show H1[zz g + n]? = some (vp_cell _ _)
  rw [e1, h0]
  rfl
theorem nNewQ (C : CX p s m args c cc nL own g) (hN : WN g n ct H) (hS : sU g s H locs) {index : Nat} {r : String} {x : Int32} {N : Nat} (j : Nat) (hcl : Cond.classLink own index r ∈ WW) (hao : va_AO r s) (ht : (TY g.2.1)[j]? = some (g.2.1 j, .object r)) (hn : ¬ x < 0) (hN' : x.toNatClampNeg = N) (hbytes : N * 4 ≤ 536870912) (hce : cells + 1 ≤ R.cells ∧ slots + N ≤ R.slots) (hd : decode cc pc = .ok (.anewarray index, 3))
    (kk : ∀ H1 : Heap, WN g (n + 1) (upC ct n (.inr (j, N, .inr (fun _ => none)))) H1 → sU g s H1 locs → W p l e R s m args below meth c H1 locs (cells + 1) (slots + N) Q (F0 m (pc + 3) ls (rf g n :: rest))) : W p l e R s m args below meth c H locs cells slots Q (F0 m pc ls (.int x :: rest)) := by
  subst hN'
  have hts := C.2.2.2.2.1
  refine W.anew C.1 C.2.1 C.2.2.2.1 (hts _ hcl) (va_AO.use hao) rfl hd rfl hn hbytes hce.1 hce.2 fun cA kA comp f1 f2 f3 f4 => ?_
  have hK2 := (C.2.2.2.2.2.1.2 j _ ht).2
  obtain ⟨kA', comp', g1, g2, g3, g4⟩ := hK2
  have hcA : cA = g.2.1 j := Option.some.inj (f1.symm.trans g4)
  subst hcA
  generalize hH1 : H.push ({ cls := g.2.1 j, slots := Array.replicate x.toNatClampNeg .null, vm := .none } : Cell) = H1
  have z1 : H1.size = zz g + n + 1 := by rw [← hH1, Array.size_push, hN.2]
  have e1 : H1[zz g + n]? = some (arrV (g.2.1 j) x.toNatClampNeg (fun _ => .null)) := by rw [← hN.2, ← hH1, Array.getElem?_push_size, ← arrV_new]
  have o1 : ∀ q : Nat, q < zz g + n → H1[q]? = H[q]? := fun q hq => by rw [← hH1, Array.getElem?_push, if_neg (by rw [hN.2]; exact Nat.ne_of_lt hq)]
  rw [hN.2]
  refine kk H1 (wn_push hN ?_ z1 o1) ⟨Nat.le_trans hS.1 (by rw [hN.2]; omega), fun x h1 h2 => (o1 x (by have := hS.1; rw [hN.2] at this; omega)).trans (hS.2.1 x h1 h2), hS.2.2⟩
  show H1[zz g + n]? = some (vp_cell _ _)
  rw [e1]
  rfl
/-- a field of an object that is being made; v as a value, cv as what is told of it -/
theorem nPut (C : CX p s m args c cc nL own g) (hN : WN g n ct H) (hS : sU g s H locs) {o ci N index : Nat} {T : u_T} {r : String} {cv : CV} {ty0 : Nat → FieldType} {ty : FieldType} (k : Nat) (ho : o < n) (hi : isO (ct o) ci = true) (hlen : k < (fsOf (ct o)).length) (hc : vwCl[ci]? = some (r, T, N)) (hin : ∀ w ∈ u_ws r T N, w ∈ WW) (hty : ∀ k, k < N → parseFieldDescriptor (T k).2.2.1 = some (ty0 k)) (hnm : ∀ a, a < N → ∀ b, b < N → a ≠ b → (T a).2.1 ≠ (T b).2.1) (hk : k < N) (hl : Cond.fieldLink own index (T k).1 (T k).2.1 (T k).2.2.1 ∈ WW) (hf : (T k).2.2.2 = false) (h0 : parseFieldDescriptor (T k).2.2.1 = some ty) (hnw : narrow ty (encV (zz g) cv) = encV (zz g) cv) (hfit : fits ty (encV (zz g) cv) = true) (hd : decode cc pc = .ok (.putfield index, 3))
    (kk : ∀ (H1 : Heap) (locs1 : List Loc), WN g n (upC ct o (.inl (ci, (fsOf (ct o)).set k cv))) H1 → sU g s H1 locs1 → W p l e R s m args below meth c H1 locs1 cells slots Q (F0 m (pc + 3) ls rest)) : W p l e R s m args below meth c H locs cells slots Q (F0 m pc ls (encV (zz g) cv :: rf g o :: rest)) := by
  have hts := C.2.2.2.2.1
  have he : (wlN (zz g) n (fun o => enc g (ct o)))[o]? = some (zz g + o, .inr (ci, (fsOf (ct o)).map (encV (zz g)))) := by rw [wlN_get ho, isO_eq hi]; rfl
  have hap := va_apart (own := own) hts hin ty0 hty hnm C.2.2.2.2.2.1 hc
  obtain ⟨r', h1, cell, q1, q2, q3, q4⟩ := hN.1 o _ he
  have hr : r' = (r, T, N) := Option.some.inj (h1.symm.trans hc)
  subst hr
  obtain ⟨hSl, hfc, kC, hkC, hkind⟩ := C.2.2.2.2.2.1.1 ci _ hc
  obtain ⟨cf, kf, fi, f, hif, hsl⟩ := hSl k hk
  have hlay := hts _ (hin _ (u_in_lay hk))
  unfold u_lay at hlay
  rw [if_neg (by rw [hf]; decide)] at hlay
  have hst := (u_facts hfc hkC (u_lays hts hin hk) hif).1
  have h6 := u_store hfc hkC hkind hlay hif h0 hnw hfit
  refine W.putK C.1 C.2.1 (f := f) ⟨C.2.2.2.1, hts _ hl, ⟨_, _, _, hif⟩, hst⟩ (by rw [q2]; exact h6) q1 q3 (by rw [hsl]; exact k2_hasslot (q4 k hk)) rfl rfl hd fun H' e1 e2 e3 => ?_
  rw [hsl] at e1 ⊢
  refine kk H' _ (wn_set hN ho ?_ e2 e3) (hS.put e2 e3 (Nat.le_add_right _ _))
  refine ⟨_, hc, t_OB.to (V := updV (vp_V ((fsOf (ct o)).map (encV (zz g)))) k (encV (zz g) cv)) ⟨_, e1, q2, q3, t_set q4 hap hk _⟩ (fun j _ => ?_)⟩
  rw [vp_updV_set (by simpa using hlen), List.map_set]
theorem nPutF (C : CX p s m args c cc nL own g) (hN : WN g n ct H) (hS : sU g s H locs) (hinit : meth.name = "<init>") {o ci N index : Nat} {T : u_T} {r : String} {cv : CV} {ty0 : Nat → FieldType} {ty : FieldType} (k : Nat) (ho : o < n) (hi : isO (ct o) ci = true) (hlen : k < (fsOf (ct o)).length) (hc : vwCl[ci]? = some (r, T, N)) (hin : ∀ w ∈ u_ws r T N, w ∈ WW) (hty : ∀ k, k < N → parseFieldDescriptor (T k).2.2.1 = some (ty0 k)) (hnm : ∀ a, a < N → ∀ b, b < N → a ≠ b → (T a).2.1 ≠ (T b).2.1) (hk : k < N) (hl : Cond.fieldLink own index (T k).1 (T k).2.1 (T k).2.2.1 ∈ WW) (hf : (T k).2.2.2 = true) (hdecl : (T k).1 = own) (h0 : parseFieldDescriptor (T k).2.2.1 = some ty) (hnw : narrow ty (encV (zz g) cv) = encV (zz g) cv) (hfit : fits ty (encV (zz g) cv) = true) (hd : decode cc pc = .ok (.putfield index, 3))
    (kk : ∀ (H1 : Heap) (locs1 : List Loc), WN g n (upC ct o (.inl (ci, (fsOf (ct o)).set k cv))) H1 → sU g s H1 locs1 → W p l e R s m args below meth c H1 locs1 cells slots Q (F0 m (pc + 3) ls rest)) : W p l e R s m args below meth c H locs cells slots Q (F0 m pc ls (encV (zz g) cv :: rf g o :: rest)) := by
  have hts := C.2.2.2.2.1
  have hown := C.2.2.2.1
  have he : (wlN (zz g) n (fun o => enc g (ct o)))[o]? = some (zz g + o, .inr (ci, (fsOf (ct o)).map (encV (zz g)))) := by rw [wlN_get ho, isO_eq hi]; rfl
  have hap := va_apart (own := own) hts hin ty0 hty hnm C.2.2.2.2.2.1 hc
  obtain ⟨r', h1, cell, q1, q2, q3, q4⟩ := hN.1 o _ he
  have hr : r' = (r, T, N) := Option.some.inj (h1.symm.trans hc)
  subst hr
  obtain ⟨hSl, hfc, kC, hkC, hkind⟩ := C.2.2.2.2.2.1.1 ci _ hc
  obtain ⟨cf, kf, fi, f, hif, hsl⟩ := hSl k hk
  have hlay := hts _ (hin _ (u_in_lay hk))
  unfold u_lay at hlay
  rw [if_pos hf] at hlay
  have hst := (u_facts hfc hkC (u_lays hts hin hk) hif).1
  have hcf : m.cls = cf := by
    obtain ⟨_, _, c', _, _, _, -, -, hf', -, -, -, hown2, -⟩ := Cond.laysFinal_spec hlay
    have e1 : c' = cf := by have := hif.symm.trans hf'; simp at this; exact this.1.symm
    rw [hdecl] at hown2
    rw [← e1]; exact Option.some.inj (hown.symm.trans hown2)
  have h6 := u_fits hfc hkC hkind (Or.inr hlay) hif h0 hnw hfit
  refine W.putFinK C.1 C.2.1 hown (hts _ hl) hif hst hcf hinit (by rw [q2]; exact h6) q1 q3 (by rw [hsl]; exact k2_hasslot (q4 k hk)) rfl rfl hd fun H' e1 e2 e3 => ?_
  rw [hsl] at e1 ⊢
  refine kk H' _ (wn_set hN ho ?_ e2 e3) (hS.put e2 e3 (Nat.le_add_right _ _))
  refine ⟨_, hc, t_OB.to (V := updV (vp_V ((fsOf (ct o)).map (encV (zz g)))) k (encV (zz g) cv)) ⟨_, e1, q2, q3, t_set q4 hap hk _⟩ (fun j _ => ?_)⟩
  rw [vp_updV_set (by simpa using hlen), List.map_set]
theorem nGetR (C : CX p s m args c cc nL own g) (hN : WN g n ct H) {o ci N index q : Nat} {T : u_T} {r : String} (k : Nat) (ho : o < n) (hi : isO (ct o) ci = true) (hq : getR (ct o) k = some q) (hc : vwCl[ci]? = some (r, T, N)) (hin : ∀ w ∈ u_ws r T N, w ∈ WW) (hk : k < N) (hl : Cond.fieldLink own index (T k).1 (T k).2.1 (T k).2.2.1 ∈ WW) (hd : decode cc pc = .ok (.getfield index, 3))
    (kk : W p l e R s m args below meth c H locs cells slots Q (F0 m (pc + 3) ls (rf g q :: rest))) : W p l e R s m args below meth c H locs cells slots Q (F0 m pc ls (rf g o :: rest)) := by
  have he : (wlN (zz g) n (fun o => enc g (ct o)))[o]? = some (zz g + o, .inr (ci, (fsOf (ct o)).map (encV (zz g)))) := by rw [wlN_get ho, isO_eq hi]; rfl
  refine va_get C.1 C.2.1 C.2.2.2.2.1 hin C.2.2.2.1 C.2.2.2.2.2.1 hN.1 o he hc k hk (C.2.2.2.2.1 _ hl) (fun _ h => h) (v := rf g q) ?_ hd kk
  rw [List.getElem?_map]
  unfold getR at hq
  cases hx : (fsOf (ct o))[k]? with
  | none => rw [hx] at hq; cases hq
  | some v =>
    rw [hx] at hq
    cases v with
    | inl x => cases hq
    | inr y =>
      dsimp only at hq
      subst hq
      rfl
theorem nLenR (C : CX p s m args c cc nL own g) (hN : WN g n ct H) {a j : Nat} {ty : FieldType} (ha : a < n) (hi : isR (ct a) j = true) (ht : (TY g.2.1)[j]? = some (g.2.1 j, ty)) (hd : decode cc pc = .ok (.arraylength, 1))
    (kk : W p l e R s m args below meth c H locs cells slots Q (F0 m (pc + 1) ls (.int (Int32.ofNat (lenOf (ct a))) :: rest))) : W p l e R s m args below meth c H locs cells slots Q (F0 m pc ls (rf g a :: rest)) :=
  va_alen C.1 C.2.1 C.2.2.2.2.2.1 hN.1 a j (x := (lenOf (ct a), .inr (.inr (.inr (.inr (fun i => (rfOf (ct a) i).map (fun o => zz g + o))))))) (by rw [wlN_get ha, isR_eq hi]; rfl) ht rfl hd kk
theorem nAst (C : CX p s m args c cc nL own g) (hN : WN g n ct H) (hS : sU g s H locs) {a o2 j ci : Nat} {i : Int32} {r : vw_C} (ha : a < n) (hi : isR (ct a) j = true) (ho2 : o2 < n) (hv : isO (ct o2) ci = true) (hin : vin i (lenOf (ct a))) (hc : vwCl[ci]? = some r) (ht : (TY g.2.1)[j]? = some (g.2.1 j, .object r.1)) (hd : decode cc pc = .ok (.aastore, 1))
    (kk : ∀ (H1 : Heap) (locs1 : List Loc), WN g n (upC ct a (.inr (j, lenOf (ct a), .inr (va_up (rfOf (ct a)) i.toNatClampNeg (some o2))))) H1 → sU g s H1 locs1 → W p l e R s m args below meth c H1 locs1 cells slots Q (F0 m (pc + 1) ls rest)) : W p l e R s m args below meth c H locs cells slots Q (F0 m pc ls (rf g o2 :: .int i :: rf g a :: rest)) := by
  have hea : (wlN (zz g) n (fun o => enc g (ct o)))[a]? = some (zz g + a, .inl (g.2.1 j, lenOf (ct a), .inr (.inr (.inr (.inr (fun i => (rfOf (ct a) i).map (fun o => zz g + o))))))) := by rw [wlN_get ha, isR_eq hi]; rfl
  have hev : (wlN (zz g) n (fun o => enc g (ct o)))[o2]? = some (zz g + o2, .inr (ci, (fsOf (ct o2)).map (encV (zz g)))) := by rw [wlN_get ho2, isO_eq hv]; rfl
  have hlt := vp_lt hin
  obtain ⟨r', hr', cellV, g1, g2, g3, -⟩ := hN.1 o2 _ hev
  have hcls := (C.2.2.2.2.2.1.1 ci r hc).2
  obtain ⟨kA, comp, k1, k2, k3, -⟩ := (C.2.2.2.2.2.1.2 j _ ht).2
  have hcomp : comp = g.1.1 ci := Option.some.inj (k3.symm.trans hcls.1)
  subst hcomp
  obtain ⟨kC, hkC, -⟩ := hcls.2
  refine W.aast C.1 C.2.1 (hN.1 a _ hea) (fun q h => by cases h) (fun h => by cases h) k1 k2 rfl hkC ⟨fun q => hin (Or.inl q), by show _ < (arrV _ _ _).slots.size; rw [arrV_size]; exact hlt⟩ g1 (fun q h => by rw [g3] at h; cases h) (by rw [g2]; exact hkC) (by rw [g2]; exact va_assign hcls) rfl rfl hd fun H1 e z oq => ?_
  refine kk H1 _ (wn_set hN ha ?_ z oq) (hS.put z oq (Nat.le_add_right _ _))
  show H1[zz g + a]? = some (vp_cell _ _)
  rw [e]
  rw [vp_cell_q, vp_cell_q, arrV_store]
  congr 2
  funext q
  by_cases hq : q = i.toNatClampNeg
  · subst hq
    simp [updV, va_up, va_rf]
  · simp [updV, va_up, hq]
theorem nIst (C : CX p s m args c cc nL own g) (hN : WN g n ct H) (hS : sU g s H locs) {a : Nat} {i x : Int32} (ha : a < n) (hi : isI (ct a) 0 = true) (hin : vin i (lenOf (ct a))) (hd : decode cc pc = .ok (.iastore, 1))
    (kk : ∀ (H1 : Heap) (locs1 : List Loc), WN g n (upC ct a (.inr (0, lenOf (ct a), .inl (upd (ifOf (ct a)) i.toNatClampNeg x)))) H1 → sU g s H1 locs1 → W p l e R s m args below meth c H1 locs1 cells slots Q (F0 m (pc + 1) ls rest)) : W p l e R s m args below meth c H locs cells slots Q (F0 m pc ls (.int x :: .int i :: rf g a :: rest)) := by
  have hea : (wlN (zz g) n (fun o => enc g (ct o)))[a]? = some (zz g + a, .inl (g.2.1 0, lenOf (ct a), .inl (ifOf (ct a)))) := by rw [wlN_get ha, isI_eq hi]; rfl
  refine W.iast C.1 C.2.1 (hN.1 a _ hea) ((C.2.2.2.2.2.1.2 0 _ rfl).1 (lenOf (ct a)) (fun j => .int (ifOf (ct a) j))) (fun q => by cases q) (by show ¬ (i < 0 ∨ (arrV _ _ _).slots.size ≤ _); rw [arrV_size]; exact hin) rfl rfl hd fun H1 e z oq => ?_
  refine kk H1 _ (wn_set hN ha ?_ z oq) (hS.put z oq (Nat.le_add_right _ _))
  show H1[zz g + a]? = some (vp_cell _ _)
  rw [e]
  rw [vp_cell_i, vp_cell_i, arrV_store]
  congr 2
  funext q
  by_cases hq : q = i.toNatClampNeg
  · subst hq
    simp [updV, upd]
  · simp [updV, upd, hq]
theorem CX.preN (C : CX p s m args c cc nL own g) (hX : AXc g s s.heap) (hN : WN g n ct H) (hS : sU g s H locs) {U : State} (hU : U.heap = H) (hw : s.WarmedH U.vm) : WNp g n ct U := by
  obtain ⟨-, -, -, -, -, hK, hT, hNX, hz⟩ := C
  refine ⟨by rw [hU]; exact hN, va_K.moved hw.alike hK, ?_, hNX.warm hw, by rw [hU]; exact Nat.le_trans hz hS.1, ?_⟩
  · rw [hU]
    exact (hT.kept hS.2.1).moved hw.alike
  · rw [hU]
    exact (hX.kept hS.2.1).warm hw
theorem nBack {n2 mc ms : Nat} {ct2 : CT} {st0 : List Value} {a : Array Value} (hr : va_Run p l e R s m args below meth c H locs cells slots mc ms (F0 m pc ls st0) rest (QN g n2 ct2 a) (AU g)) (hS : sU g s H locs)
    (kk : ∀ (H1 : Heap) (locs1 : List Loc), WN g n2 ct2 H1 → sU g s H1 locs1 → W p l e R s m args below meth c H1 locs1 (cells + mc) (slots + ms) Q (F0 m (pc + 3) ls rest)) : W p l e R s m args below meth c H locs cells slots Q (F0 m pc ls st0) := by
  intro T hT X
  obtain ⟨v, st₀, t, T', L, h0, X', hL, e1, e2, ⟨⟨hv, hb⟩, hz1, hk⟩, st⟩ := hr T hT X
  cases hv
  rw [h0] at hz1 hk
  obtain ⟨t2, a1, b1⟩ := kk T'.heap (locs ++ L) (by rw [e1]; exact hb)
    ⟨Nat.le_trans hS.1 (by rw [e1]; exact hz1), fun q h1 h2 => by rw [e1, hk q (Nat.lt_of_lt_of_le h1 hS.1) h2]; exact hS.2.1 q h1 h2, fun q hq => by
      rcases List.mem_append.mp hq with h | h
      · exact hS.2.2 q h
      · exact hL q h⟩ T' rfl X'
  exact ⟨t2, st t2 a1, b1⟩
def IW (y : MethodName) (bytes : ByteArray) (maxL : Nat) : Prop := Cond.code y bytes maxL none ∈ WW ∧ Cond.instanceMethod y ∈ WW ∧ Cond.initialized y.cls ∈ WW ∧ y.cls ≠ "java/lang/invoke/MethodHandle" ∧ y.cls ≠ "java/lang/invoke/VarHandle" ∧ (parseMethodDescriptor y.desc).map (fun d => d.parameters.length) = some 0 ∧ y.name = "<init>"
theorem runI {y : MethodName} {bytes : ByteArray} {maxL index f lc o mc ms : Nat} {Qc : Array Value → State → Outcome → State → Prop} {st0 : List Value} (C : CX p s m args c cc nL own g) (hX : AXc g s s.heap) (hN : WN g n ct H) (hS : sU g s H locs) (hM : Met l y (wm y bytes maxL none) (RN f lc mc ms) (va_Pc [rf g o] (WNp g n ct)) Qc mc ms (AU g)) (hv : IW y bytes maxL) (hl : Cond.methodLink own index y ∈ WW) (hsz : ls.size = nL) (hst : st0 = rf g o :: rest) (hrm : (rest.map fun v => v.category).sum ≤ 8) (hR : f + 1 ≤ R.frames ∧ 8 + (maxL + 11) + lc ≤ R.locals) (hcs : cells + mc ≤ R.cells ∧ slots + ms ≤ R.slots) (hd : decode cc pc = .ok (.invokespecial index, 3)) : va_Run p l e R s m args below meth c H locs cells slots mc ms (F0 m pc ls st0) rest (Qc [rf g o].toArray) (AU g) := by
  obtain ⟨v1, v2, v4, v5, v6, v7, v8⟩ := hv
  have ok : ∀ w ∈ WW, w.before args s = true := C.2.2.2.2.1
  exact va_runI (Ts := WW) (As := []) ⟨C.1, C.2.1, C.2.2.1, C.2.2.2.1, ok⟩ hM ⟨callB_of 0 ok (wm_good v1) rfl rfl rfl (ok _ v4) (ok _ hl) ⟨v5, v6, v7⟩ hR, v8, ok _ v2⟩ ⟨WNp_blind, fun U hU hw => ⟨rfl, C.preN hX hN hS hU hw⟩⟩ rfl rfl hsz hst (lv_room hrm) hd hcs
theorem runIN {y : MethodName} {bytes : ByteArray} {maxL index f lc o mc ms : Nat} {Qc : Array Value → State → Outcome → State → Prop} {st0 : List Value} (C : CX p s m args c cc nL own g) (hX : AXc g s s.heap) (hN : WN g n ct H) (hS : sU g s H locs) (hM : Met l y (wm y bytes maxL none) (RN f lc mc ms) (va_Pc [rf g o] (WNp g n ct)) Qc mc ms (AU g)) (hv : IW y bytes maxL) (hl : (own, index, y) ∈ NLm) (hsz : ls.size = nL) (hst : st0 = rf g o :: rest) (hrm : (rest.map fun v => v.category).sum ≤ 8) (hR : f + 1 ≤ R.frames ∧ 8 + (maxL + 11) + lc ≤ R.locals) (hcs : cells + mc ≤ R.cells ∧ slots + ms ≤ R.slots) (hd : decode cc pc = .ok (.invokespecial index, 3)) : va_Run p l e R s m args below meth c H locs cells slots mc ms (F0 m pc ls st0) rest (Qc [rf g o].toArray) (AU g) := by
  obtain ⟨v1, v2, v4, v5, v6, v7, v8⟩ := hv
  have ok : ∀ w ∈ WW, w.before args s = true := C.2.2.2.2.1
  exact va_runIN (Ts := WW) (host := "BellFoundry") (As := []) ⟨C.1, C.2.1, C.2.2.1, C.2.2.2.1, ok⟩ hM ⟨va_cnB 0 ok (wm_good v1) rfl rfl rfl (C.2.2.2.2.2.2.2.1.2 _ hl) (ok _ v4) ⟨v5, v6, v7⟩ hR, v8, ok _ v2⟩ ⟨WNp_blind, fun U hU hw => ⟨rfl, C.preN hX hN hS hU hw⟩⟩ rfl rfl hsz hst (lv_room hrm) hd hcs
theorem nObj (C : CX p s m args c cc nL own g) {index o : Nat} (hl : Cond.methodLink own index objectInit ∈ WW) (hsz : ls.size = nL) (hf : 1 ≤ R.frames) (hlo : 12 ≤ R.locals) (hd : decode cc pc = .ok (.invokespecial index, 3))
    (kk : W p l e R s m args below meth c H locs cells slots Q (F0 m (pc + 3) ls [])) : W p l e R s m args below meth c H locs cells slots Q (F0 m pc ls [rf g o]) := by
  have hts := C.2.2.2.2.1
  exact W.objInit C.1 C.2.1 C.2.2.2.1 (hts _ hl) (hts _ im_oinit) (hts _ co_oinit) rfl (by show ls.size = _; rw [hsz, C.2.2.1]) rfl hd hf (by show 2 * 0 + 0 + 12 ≤ _; omega) kk
theorem nClone (C : CX p s m args c cc nL own g) (hX : AXc g s s.heap) (hN : WN g n ct H) (hS : sU g s H locs) {index : Nat} (hml : ls.size = nL) (hl : Cond.methodLink own index ⟨"[I", "clone", "()Ljava/lang/Object;"⟩ ∈ WW) (hf : 1 ≤ R.frames) (hlo : (rest.map fun v => v.category).sum + 14 ≤ R.locals) (hce : cells + 1 ≤ R.cells ∧ slots + 7 ≤ R.slots) (hd : decode cc pc = .ok (.invokevirtual index, 3))
    (kk : ∀ H1 : Heap, WN g (n + 1) (upC ct n (.inr (0, 7, .inl sFirst))) H1 → sU g s H1 locs → W p l e R s m args below meth c H1 locs (cells + 1) (slots + 7) Q (F0 m (pc + 3) ls (rf g n :: rest))) : W p l e R s m args below meth c H locs cells slots Q (F0 m pc ls (.ref (g.2.2.2 0) :: rest)) := by
  have hts := C.2.2.2.2.1
  obtain ⟨cell, h1, h2, h3, h4, h5, h6, h7, h8⟩ := (hX.2.1.kept hS.2.1)
  obtain ⟨c0, t0', f1, f2, f3⟩ := Cond.castable_spec (va_Nw.use (A := args) rfl hX.1.2)
  cases h4.symm.trans f1
  intro T hT X
  have hcellT : T.heap[g.2.2.2 0]? = some cell := by rw [hT]; exact h1
  obtain ⟨-, kA, hkA, comp, hkind⟩ := State.isArrayOf_alike X.warmed.alike h2
  obtain ⟨hns, kS, hkS, compS, hkindS⟩ := h2
  obtain ⟨vm', X', st⟩ := X.cloneArray C.1 C.2.2.2.1 (hts _ hl) (hts _ sm_clone) (hts _ nt_qclone) (hts _ im_qclone) (hts _ se_clone) (a := g.2.2.2 0) (cell := cell) hcellT hns h3 h4 f2 f3
    (fun i v hv => by
      have hi : i < 7 := by rw [← h6]; exact (Array.getElem?_eq_some_iff.mp hv).1
      rw [h7 i hi] at hv
      cases hv
      simp [State.fitsSlot, State.slotType?, hkA, hkind, fits])
    (g := F0 m pc ls (.ref (g.2.2.2 0) :: rest)) rfl (by show ls.size = _; rw [hml, C.2.2.1]) rfl (by rw [C.2.1]; exact hd) hf (by show 2 * 0 + _ + 14 ≤ _; omega) hce.1 (by rw [h6]; exact hce.2) (hloader := Vm.clonesLoader_of_array hkS hkindS)
  have hcE : ({ cls := cell.cls, slots := cell.slots } : Cell) = vp_cell (g.2.1 0) (7, .inl sFirst) := by
    rw [h5, vp_cell_i]
    unfold arrV
    congr 1
    apply Array.ext_getElem?
    intro j
    by_cases hj : j < 7
    · rw [h7 j hj]; simp [hj]
    · rw [Array.getElem?_eq_none (by omega), Array.getElem?_eq_none (by simp; omega)]
  rw [hcE, h6] at X'
  generalize hH1 : H.push (vp_cell (g.2.1 0) (7, .inl sFirst)) = H1
  have z1 : H1.size = zz g + n + 1 := by rw [← hH1, Array.size_push, hN.2]
  have e1 : H1[zz g + n]? = some (vp_cell (g.2.1 0) (7, .inl sFirst)) := by rw [← hN.2, ← hH1, Array.getElem?_push_size]
  have o1 : ∀ q : Nat, q < zz g + n → H1[q]? = H[q]? := fun q hq => by rw [← hH1, Array.getElem?_push, if_neg (by rw [hN.2]; exact Nat.ne_of_lt hq)]
  obtain ⟨t, b1, b2⟩ := kk H1 (wn_push hN e1 z1 o1) ⟨Nat.le_trans hS.1 (by rw [hN.2]; omega), fun y h1 h2 => (o1 y (by have := hS.1; rw [hN.2] at this; omega)).trans (hS.2.1 y h1 h2), hS.2.2⟩
    ((T.setVm vm').pushCell (vp_cell (g.2.1 0) (7, .inl sFirst))) (by rw [← hH1, ← hT]; rfl) X'
  refine ⟨t, st t ?_, b2⟩
  rw [hcE, hT, hN.2]
  exact b1
theorem nCast (C : CX p s m args c cc nL own g) (hX : AXc g s s.heap) (hN : WN g n ct H) {index a : Nat} (ha : a < n) (hi : isI (ct a) 0 = true) (hl : Cond.classLink own index "[I" ∈ WW) (hd : decode cc pc = .ok (.checkcast index, 3))
    (kk : W p l e R s m args below meth c H locs cells slots Q (F0 m (pc + 3) ls (rf g a :: rest))) : W p l e R s m args below meth c H locs cells slots Q (F0 m pc ls (rf g a :: rest)) :=
  va_castA C.1 C.2.1 C.2.2.2.1 (C.2.2.2.2.1 _ hl) hN.1 a (x := (lenOf (ct a), .inl (ifOf (ct a)))) (by rw [wlN_get ha, isI_eq hi]; rfl) hX.2.2.1 hd kk
theorem nGs (C : CX p s m args c cc nL own g) (hS : sU g s H locs) {index : Nat} (hl : (own, index, "BellFoundry", "SETTING_FIRST", "[I") ∈ NLf) (hd : decode cc pc = .ok (.getstatic index, 3))
    (kk : W p l e R s m args below meth c H locs cells slots Q (F0 m (pc + 3) ls (.ref (g.2.2.2 0) :: rest))) : W p l e R s m args below meth c H locs cells slots Q (F0 m pc ls rest) :=
  va_getsN (host := "BellFoundry") C.1 C.2.1 C.2.2.2.2.2.2.1.1.1 hS C.2.2.2.1 (va_Nw.use rfl (C.2.2.2.2.2.2.2.1.1 _ hl)) (fun _ h => h) hd kk
theorem nEnd (C : CX p s m args c cc nL own g) (hr : meth.sig.returnType = none) (hk : meth.locks = false) {mc ms : Nat} (h1 : cells ≤ mc) (h2 : slots ≤ ms) (hd : decode cc pc = .ok (.return_, 1)) (hN : WN g n ct H) (hS : sU g s H locs) : W p l e R s m args below meth c H locs cells slots (MQ below (QN g n ct) args s mc ms (AU g)) (F0 m pc ls []) :=
  W.widen h1 h2 (W.vret C.1 C.2.1 hr (fun t ht hw => ⟨⟨rfl, by rw [ht]; exact hN⟩, hS.F ht⟩) hS.2.2 hd hk)
end NWS
theorem mkN {l : Launch} {y : MethodName} {cc : ByteArray} {maxL f lc mc ms n : Nat} {g : GD} {ct : CT} {o : Nat} {Qc : Array Value → State → Outcome → State → Prop} (hy : plainName y.cls = true) (hnm : y.name = "<init>") (hlen : 1 ≤ maxL)
    (body : ∀ p e s m below meth c, CX p s m [rf g o].toArray c cc maxL y.cls g → AXc g s s.heap → meth.name = "<init>" → meth.sig.returnType = none → meth.locks = false → WN g n ct s.heap → sU g s s.heap [] → ∀ ls : Array Slot, lv_has ls maxL [(0, rf g o)] → W p l e (RN f lc mc ms) s m [rf g o].toArray below meth c s.heap [] 0 0 (MQ below Qc [rf g o].toArray s mc ms (AU g)) (F0 m 0 ls [])) : Met l y (wm y cc maxL none) (RN f lc mc ms) (va_Pc [rf g o] (WNp g n ct)) Qc mc ms (AU g) := by
  refine Met.ofW (cc := cc) (maxL := maxL) (ret := none) hy rfl ?_
  intro p e s m args below meth c s₁ B hml hv
  obtain ⟨rfl, hN, hK, hT, hNX, hz, hX⟩ := hv
  have hts := atoms_spec (ws := wm y cc maxL none) B.pre
  have C : CX p s m [rf g o].toArray c cc maxL y.cls g := ⟨B.exec, B.bytes, hml, findClass_of_methodNamed B.named, fun w h => hts w (List.mem_cons_of_mem _ h), hK, hT, hNX, hz⟩
  rw [lg_entry_eq]
  exact body p e s m below meth c C hX ((name_of_methodNamed B.named B.method).1.trans hnm) B.returns B.notSynchronized hN va_S.rf _ (lv_entry [rf g o] hlen)
