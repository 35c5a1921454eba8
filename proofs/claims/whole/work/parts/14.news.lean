/-! CONSTRUCTORS: the world while it grows: n cells from z on, what each holds told by ct : Nat → CE (addresses as numbers of cells). -/
abbrev CV : Type := Int32 ⊕ Option Nat
abbrev CE : Type := (Nat × List CV) ⊕ (Nat × Nat × ((Nat → Int32) ⊕ (Nat → Option Nat)))
def encV (z : Nat) (v : CV) : Value := match v with
  | .inl x => .int x
  | .inr none => .null
  | .inr (some o) => .ref (z + o)
def enc (g : GD) (c : CE) : va_E := match c with
  | .inl (ci, vs) => .inr (ci, vs.map (encV (zz g)))
  | .inr (j, n, .inl f) => .inl (g.2.1 j, n, .inl f)
  | .inr (j, n, .inr f) => .inl (g.2.1 j, n, .inr (.inr (.inr (.inr (fun i => (f i).map (fun o => zz g + o))))))
def fsOf (c : CE) : List CV := match c with
  | .inl (_, vs) => vs
  | .inr _ => []
def isO (c : CE) (ci : Nat) : Bool := match c with
  | .inl (ci', _) => ci' == ci
  | .inr _ => false
def lenOf (c : CE) : Nat := match c with
  | .inl _ => 0
  | .inr (_, n, _) => n
def isI (c : CE) (j : Nat) : Bool := match c with
  | .inr (j', _, .inl _) => j' == j
  | _ => false
def isR (c : CE) (j : Nat) : Bool := match c with
  | .inr (j', _, .inr _) => j' == j
  | _ => false
def ifOf (c : CE) : Nat → Int32 := match c with
  | .inr (_, _, .inl f) => f
  | _ => fun _ => 0
def rfOf (c : CE) : Nat → Option Nat := match c with
  | .inr (_, _, .inr f) => f
  | _ => fun _ => none
def getR (c : CE) (k : Nat) : Option Nat := match (fsOf c)[k]? with
  | some (.inr r) => r
  | _ => none
theorem isO_eq {c : CE} {ci : Nat} (h : isO c ci = true) : c = .inl (ci, fsOf c) := by
  obtain ⟨ci', vs⟩ | x := c
  · simp [isO] at h; subst h; rfl
  · simp [isO] at h
theorem isI_eq {c : CE} {j : Nat} (h : isI c j = true) : c = .inr (j, lenOf c, .inl (ifOf c)) := by
  obtain x | ⟨j', n, f | f⟩ := c
  · simp [isI] at h
  · simp [isI] at h; subst h; rfl
  · simp [isI] at h
theorem isR_eq {c : CE} {j : Nat} (h : isR c j = true) : c = .inr (j, lenOf c, .inr (rfOf c)) := by
  obtain x | ⟨j', n, f | f⟩ := c
  · simp [isR] at h
  · simp [isR] at h
  · simp [isR] at h; subst h; rfl
abbrev CT : Type := Nat → CE
def upC (ct : CT) (o : Nat) (e : CE) : CT := fun q => if q = o then e else ct q
def WN (g : GD) (n : Nat) (ct : CT) (H : Heap) : Prop := va_P g.1 vwCl (wlN (zz g) n (fun o => enc g (ct o))) H ∧ H.size = zz g + n
def AX (U : State) : Prop := (va_AO "BellFoundry$Lot" U ∧ va_AO "BellFoundry$Bell" U ∧ va_AO "BellFoundry$Order" U ∧ va_AO "BellFoundry$Works" U ∧ va_AO "BellFoundry$Load" U) ∧ va_Nw (.castable "[I" "java/lang/Cloneable") U ∧ va_Nw (.fieldLinkNest "BellFoundry$Works" 34 "BellFoundry" "SETTING_FIRST" "[I" "BellFoundry") U
def WNp (g : GD) (n : Nat) (ct : CT) (U : State) : Prop := WN g n ct U.heap ∧ va_K g.1 vwCl (TY g.2.1) U ∧ ST g U U.heap ∧ NX U ∧ zz g ≤ U.heap.size ∧ AX U
theorem AX.warm {s U : State} (hW : s.WarmedH U.vm) (h : AX s) : AX U := ⟨⟨va_AO.moved hW.alike h.1.1, va_AO.moved hW.alike h.1.2.1, va_AO.moved hW.alike h.1.2.2.1, va_AO.moved hW.alike h.1.2.2.2.1, va_AO.moved hW.alike h.1.2.2.2.2⟩, va_Nw.warmC hW h.2.1, va_Nw.warmF hW h.2.2⟩
theorem AX.same {u U : State} (e : u.vm = U.vm) (hv : u.vm.Alike U.vm) (h : AX u) : AX U := ⟨⟨va_AO.moved hv h.1.1, va_AO.moved hv h.1.2.1, va_AO.moved hv h.1.2.2.1, va_AO.moved hv h.1.2.2.2.1, va_AO.moved hv h.1.2.2.2.2⟩, va_Nw.same rfl e h.2.1, va_Nw.same rfl e h.2.2⟩
theorem WNp_blind {g : GD} {n : Nat} {ct : CT} {av : List Value} : FrameBlind (va_Pc av (WNp g n ct)) := fun a U fr mk q => ⟨q.1, q.2.1, va_K.moved (u := U) (U := U.calling fr mk a) (Vm.Alike.refl U.vm) q.2.2.1, ST.moved (u := U) (U := U.calling fr mk a) (Vm.Alike.refl U.vm) q.2.2.2.1, NX.same (u := U) (U := U.calling fr mk a) rfl q.2.2.2.2.1, q.2.2.2.2.2.1, AX.same (u := U) (U := U.calling fr mk a) rfl (Vm.Alike.refl U.vm) q.2.2.2.2.2.2⟩
/-- the constructor's end: n2 cells, told by ct2 -/
def QN (g : GD) (n2 : Nat) (ct2 : CT) : Array Value → State → Outcome → State → Prop := fun _ st oc t => (oc = .returned none ∧ WN g n2 ct2 t.heap) ∧ va_F (AA g) st t
abbrev RN (f lc mc ms : Nat) : Room := { frames := f, cells := mc, slots := ms, locals := lc }
section NWS
variable {p : Program} {l : Launch} {e : Env} {R : Room} {s : State} {m : MethodId} {args : Array Value} {below : List Frame} {meth : Method} {c : Code} {H : Heap} {locs : List Loc} {cells slots : Nat} {Q : State → Prop}
variable {cc : ByteArray} {pc : Nat} {ls : Array Slot} {rest : List Value} {g : GD} {n : Nat} {ct : CT} {nL : Nat} {own : String}
theorem wn_push {H1 : Heap} (hN : WN g n ct H) {ce : CE} (e1 : va_at g.1 vwCl (zz g + n, enc g ce) H1) (z1 : H1.size = zz g + n + 1) (o1 : ∀ q, q < zz g + n → H1[q]? = H[q]?) : WN g (n + 1) (upC ct n ce) H1 := by
  refine ⟨?_, by omega⟩
  rw [← wlN_push (ct := fun o => enc g (ct o)) (e := enc g ce) (by simp [upC]) (fun q hq => by simp [upC, Nat.ne_of_lt hq])]
  refine va_P.app (hN.1.kept (fun k q hk => o1 q.1 ?_)) (fun k q hk => ?_)
  · have := (hN.1 k q hk).lt
    rw [hN.2] at this
    exact this
  · have hz : k < 1 := (List.getElem?_eq_some_iff.mp hk).1
    rw [show k = 0 by omega] at hk
    cases hk
    exact e1
theorem wn_set {H1 : Heap} (hN : WN g n ct H) {o : Nat} {ce : CE} (ho : o < n) (e1 : va_at g.1 vwCl (zz g + o, enc g ce) H1) (z1 : H1.size = H.size) (o1 : ∀ q, q ≠ zz g + o → H1[q]? = H[q]?) : WN g n (upC ct o ce) H1 := by
  refine ⟨?_, by rw [z1]; exact hN.2⟩
  have hP := hN.1.set (e := enc g ce) (wlN_D (zz g) n _) (wlN_get ho) e1 o1
  rwa [wlN_set (ct' := fun q => enc g (upC ct o ce q)) (by simp [upC]) (fun q _ hq => by simp [upC, hq])] at hP
theorem nNew (C : CX p s m args c cc nL own g) (hN : WN g n ct H) (hS : sS g s H locs) {index ci N : Nat} {r : String} {T : u_T} {ty : Nat → FieldType} (vs : List CV) (hin : ∀ w ∈ u_ws r T N, w ∈ WW) (hty : ∀ k, k < N → parseFieldDescriptor (T k).2.2.1 = some (ty k)) (hcl : Cond.classLink own index r ∈ WW) (hinst : Cond.instantiable r N ∈ WW) (hini : Cond.initialized r ∈ WW) (hc : vwCl[ci]? = some (r, T, N)) (hfs : ∀ j, j < N → defaultValue (ty j) = vp_V (vs.map (encV (zz g))) j) (hce : cells + 1 ≤ R.cells ∧ slots + N ≤ R.slots) (hd : decode cc pc = .ok (.new index, 3))
    (kk : ∀ H1 : Heap, WN g (n + 1) (upC ct n (.inl (ci, vs))) H1 → sS g s H1 locs → W p l e R s m args below meth c H1 locs (cells + 1) (slots + N) Q (F0 m (pc + 3) ls (rf g n :: rest))) : W p l e R s m args below meth c H locs cells slots Q (F0 m pc ls rest) := by
  have hts := C.2.2.2.2.1
  have hKn := C.2.2.2.2.2.1.1 ci _ hc
  refine W.newcK (h := zz g + n) C.1 C.2.1 C.2.2.2.1 (hts _ hcl) (hts _ hinst) (hts _ hini) rfl hd hce.1 hce.2 hKn.2.1 hN.2 fun H1 kC hkC e1 z1 o1 => ?_
  refine kk H1 (wn_push hN ⟨_, hc, (u_born ty hts hin hKn hkC e1 hty).to hfs⟩ z1 o1) ⟨Nat.le_trans hS.1 (by rw [hN.2]; omega), fun x h1 h2 => (o1 x (by have := hS.1; rw [hN.2] at this; omega)).trans (hS.2.1 x h1 h2), hS.2.2⟩
theorem nNewA (C : CX p s m args c cc nL own g) (hN : WN g n ct H) (hS : sS g s H locs) {atype : ArrayType} {ty : FieldType} {x : Int32} {N : Nat} (j : Nat) (harr : Cond.arrayClass (newarray.typeOf atype) ∈ WW) (hty : newarray.typeOf atype = ty) (ht : (TY g.2.1)[j]? = some (g.2.1 j, ty)) (hr : refKind ty = false) (h0 : defaultValue ty = .int 0) (hn : ¬ x < 0) (hN' : x.toNatClampNeg = N) (hbytes : N * componentBytes ty ≤ 536870912) (hce : cells + 1 ≤ R.cells ∧ slots + N ≤ R.slots) (hd : decode cc pc = .ok (.newarray atype, 2)) (hs1 : ∀ cA : ClassId, s.vm.findClass ("[" ++ ty.toString) = some cA → cA = g.2.1 j)
    (kk : ∀ H1 : Heap, WN g (n + 1) (upC ct n (.inr (j, N, .inl (fun _ => 0)))) H1 → sS g s H1 locs → W p l e R s m args below meth c H1 locs (cells + 1) (slots + N) Q (F0 m (pc + 2) ls (rf g n :: rest))) : W p l e R s m args below meth c H locs cells slots Q (F0 m pc ls (.int x :: rest)) := by
  subst hty
  have hts := C.2.2.2.2.1
  refine va_newaK C.1 C.2.1 (hts _ harr) rfl hd rfl hn hN' hbytes hce.1 hce.2 hN.2 fun H1 cA e1 z1 o1 hAr hNm => ?_
  have hcA := hs1 cA hNm
  subst hcA
  refine kk H1 (wn_push hN ?_ z1 o1) ⟨Nat.le_trans hS.1 (by rw [hN.2]; omega), fun x h1 h2 => (o1 x (by have := hS.1; rw [hN.2] at this; omega)).trans (hS.2.1 x h1 h2), hS.2.2⟩
  show H1[zz g + n]? = some (vp_cell _ _)
  rw [e1, h0]
  rfl
theorem nNewQ (C : CX p s m args c cc nL own g) (hN : WN g n ct H) (hS : sS g s H locs) {index : Nat} {r : String} {x : Int32} {N : Nat} (j : Nat) (hcl : Cond.classLink own index r ∈ WW) (hao : va_AO r s) (ht : (TY g.2.1)[j]? = some (g.2.1 j, .object r)) (hn : ¬ x < 0) (hN' : x.toNatClampNeg = N) (hbytes : N * 4 ≤ 536870912) (hce : cells + 1 ≤ R.cells ∧ slots + N ≤ R.slots) (hd : decode cc pc = .ok (.anewarray index, 3))
    (kk : ∀ H1 : Heap, WN g (n + 1) (upC ct n (.inr (j, N, .inr (fun _ => none)))) H1 → sS g s H1 locs → W p l e R s m args below meth c H1 locs (cells + 1) (slots + N) Q (F0 m (pc + 3) ls (rf g n :: rest))) : W p l e R s m args below meth c H locs cells slots Q (F0 m pc ls (.int x :: rest)) := by
  subst hN'
  have hts := C.2.2.2.2.1
  refine W.anew C.1 C.2.1 C.2.2.2.1 (hts _ hcl) (va_AO.use hao) rfl hd rfl hn hbytes hce.1 hce.2 fun cA kA comp f1 f2 f3 f4 => ?_
  have hK2 := (C.2.2.2.2.2.1.2 j _ ht).2
  obtain ⟨kA', comp', g1, g2, g3, g4⟩ := hK2
  have hcA : cA = g.2.1 j := Option.some.inj (f1.symm.trans g4)
  subst hcA
  generalize hH1 : H.push ({ cls := g.2.1 j, slots := Array.replicate x.toNatClampNeg .null, vm := .none } : Cell) = H1
  have z1 : H1.size = zz g + n + 1 := by rw [← hH1, Array.size_push, hN.2]
  have e1 : H1[zz g + n]? = some (arrV (g.2.1 j) x.toNatClampNeg (fun _ => .null)) := by rw [← hN.2, ← hH1, Array.getElem?_push_size, ← arrV_new]
  have o1 : ∀ q : Nat, q < zz g + n → H1[q]? = H[q]? := fun q hq => by rw [← hH1, Array.getElem?_push, if_neg (by rw [hN.2]; exact Nat.ne_of_lt hq)]
  rw [hN.2]
  refine kk H1 (wn_push hN ?_ z1 o1) ⟨Nat.le_trans hS.1 (by rw [hN.2]; omega), fun x h1 h2 => (o1 x (by have := hS.1; rw [hN.2] at this; omega)).trans (hS.2.1 x h1 h2), hS.2.2⟩
  show H1[zz g + n]? = some (vp_cell _ _)
  rw [e1]
  rfl
end NWS
