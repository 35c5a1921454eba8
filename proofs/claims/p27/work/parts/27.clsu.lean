/-! What the class's works tell, and how they change with the abstract row. -/
section
variable {w st r : Nat → Int32} {a : Nat → Int}
theorem RA.cb (h : RA w st r a) : a 8 ≤ 12 ∧ a 52 ≤ 100 ∧ a 53 ≤ 100 := h.2.1
theorem RA.lo (h : RA w st r a) {q : Nat} (hq : q < 9) : w q = iI (a q) := h.2.2.1 q hq
theorem RA.se (h : RA w st r a) {j : Nat} (hj : j < 7) : st j = iI (a (45 + j)) := h.2.2.2.1 j hj
theorem RA.nb (h : RA w st r a) : w 52 = iI (a 52) := h.2.2.2.2.1
theorem RA.no (h : RA w st r a) : w 53 = iI (a 53) := h.2.2.2.2.2.1
theorem RA.lt (h : RA w st r a) {i : Nat} (hi : i < (a 8).toNat) {f : Nat} (hf : f < 3) : w (9 + 3 * pm r i + f) = iI (a (9 + 3 * i + f)) := h.2.2.2.2.2.2.1 i hi f hf
theorem RA.l0 (h : RA w st r a) {i : Nat} (hi : i < (a 8).toNat) : w (9 + 3 * pm r i) = iI (a (9 + 3 * i)) := h.lt hi (f := 0) (by omega)
theorem RA.l1 (h : RA w st r a) {i : Nat} (hi : i < (a 8).toNat) : w (9 + 3 * pm r i + 1) = iI (a (10 + 3 * i)) := by
  rw [h.lt hi (f := 1) (by omega), show 9 + 3 * i + 1 = 10 + 3 * i by omega]
theorem RA.l2 (h : RA w st r a) {i : Nat} (hi : i < (a 8).toNat) : w (11 + 3 * pm r i) = iI (a (11 + 3 * i)) := by
  rw [show 11 + 3 * pm r i = 9 + 3 * pm r i + 2 by omega, h.lt hi (f := 2) (by omega), show 9 + 3 * i + 2 = 11 + 3 * i by omega]
theorem RA.bf (h : RA w st r a) {b : Nat} (hb : b < (a 52).toNat) {f : Nat} (hf : f < 7) : w (54 + 8 * b + f) = iI (a (54 + 8 * b + f)) := (h.2.2.2.2.2.2.2.1 b hb).1 f hf
theorem RA.b0 (h : RA w st r a) {b : Nat} (hb : b < (a 52).toNat) : w (54 + 8 * b) = iI (a (54 + 8 * b)) := h.bf hb (f := 0) (by omega)
theorem RA.b1 (h : RA w st r a) {b : Nat} (hb : b < (a 52).toNat) : w (54 + 8 * b + 1) = iI (a (55 + 8 * b)) := by
  rw [h.bf hb (f := 1) (by omega), show 54 + 8 * b + 1 = 55 + 8 * b by omega]
theorem RA.b2 (h : RA w st r a) {b : Nat} (hb : b < (a 52).toNat) : w (56 + 8 * b) = iI (a (56 + 8 * b)) := by
  rw [show 56 + 8 * b = 54 + 8 * b + 2 by omega, h.bf hb (by omega)]
theorem RA.b3 (h : RA w st r a) {b : Nat} (hb : b < (a 52).toNat) : w (57 + 8 * b) = iI (a (57 + 8 * b)) := by
  rw [show 57 + 8 * b = 54 + 8 * b + 3 by omega, h.bf hb (by omega)]
theorem RA.b4 (h : RA w st r a) {b : Nat} (hb : b < (a 52).toNat) : w (58 + 8 * b) = iI (a (58 + 8 * b)) := by
  rw [show 58 + 8 * b = 54 + 8 * b + 4 by omega, h.bf hb (by omega)]
theorem RA.b5 (h : RA w st r a) {b : Nat} (hb : b < (a 52).toNat) : w (59 + 8 * b) = iI (a (59 + 8 * b)) := by
  rw [show 59 + 8 * b = 54 + 8 * b + 5 by omega, h.bf hb (by omega)]
theorem RA.b6 (h : RA w st r a) {b : Nat} (hb : b < (a 52).toNat) : w (60 + 8 * b) = iI (a (60 + 8 * b)) := by
  rw [show 60 + 8 * b = 54 + 8 * b + 6 by omega, h.bf hb (by omega)]
theorem RA.b7 (h : RA w st r a) {b : Nat} (hb : b < (a 52).toNat) (hs : a (60 + 8 * b) = 2) : w (61 + 8 * b) = iI (a (61 + 8 * b)) := (h.2.2.2.2.2.2.2.1 b hb).2 hs
theorem RA.of (h : RA w st r a) {o : Nat} (ho : o < (a 53).toNat) {f : Nat} (hf : f < 4) : w (854 + 4 * o + f) = iI (a (854 + 4 * o + f)) := h.2.2.2.2.2.2.2.2 o ho f hf
theorem RA.o0 (h : RA w st r a) {o : Nat} (ho : o < (a 53).toNat) : w (854 + 4 * o) = iI (a (854 + 4 * o)) := h.of ho (f := 0) (by omega)
theorem RA.o1 (h : RA w st r a) {o : Nat} (ho : o < (a 53).toNat) : w (855 + 4 * o) = iI (a (855 + 4 * o)) := by
  rw [show 855 + 4 * o = 854 + 4 * o + 1 by omega, h.of ho (by omega)]
theorem RA.o2 (h : RA w st r a) {o : Nat} (ho : o < (a 53).toNat) : w (856 + 4 * o) = iI (a (856 + 4 * o)) := by
  rw [show 856 + 4 * o = 854 + 4 * o + 2 by omega, h.of ho (by omega)]
theorem RA.o3 (h : RA w st r a) {o : Nat} (ho : o < (a 53).toNat) : w (857 + 4 * o) = iI (a (857 + 4 * o)) := by
  rw [show 857 + 4 * o = 854 + 4 * o + 3 by omega, h.of ho (by omega)]
theorem pt {q : Nat} {x : Int} : ∀ q', w q' = iI (a q') → upd w q (iI x) q' = iI (uI a q x q') := by
  intro q' h'
  by_cases e : q' = q
  · subst e; rw [upd_s, uI_s]
  · rw [upd_n e, uI_n e]; exact h'
theorem RA.u_same (h : RA w st r a) {q : Nat} (x : Int) (hq : q < 8 ∨ (54 ≤ q ∧ q < 854 ∧ (q - 54) % 8 < 6) ∨ 854 ≤ q) : RA (upd w q (iI x)) st r (uI a q x) := by
  obtain ⟨r1, r9, r2, r3, r4, r5, r6, r7, r8⟩ := h
  have e8 : uI a q x 8 = a 8 := uI_n (by omega)
  have e52 : uI a q x 52 = a 52 := uI_n (by omega)
  have e53 : uI a q x 53 = a 53 := uI_n (by omega)
  unfold RA
  rw [e8, e52, e53]
  refine ⟨r1, r9, fun q' h' => pt q' (r2 q' h'), fun j hj => by rw [uI_n (by omega)]; exact r3 j hj, by rw [upd_n (by omega)]; exact r4, by rw [upd_n (by omega)]; exact r5, fun i hi f hf => ?_, fun b hb => ⟨fun f hf => pt _ ((r7 b hb).1 f hf), fun hs => pt _ ((r7 b hb).2 ?_)⟩, fun o ho f hf => pt _ (r8 o ho f hf)⟩
  · have := r1.1 i (by omega)
    rw [upd_n (by omega), uI_n (by omega)]; exact r6 i hi f hf
  · rw [uI_n (by omega)] at hs; exact hs
theorem RA.u_set (h : RA w st r a) {j : Nat} (x : Int) (hj : j < 7) : RA w (upd st j (iI x)) r (uI a (45 + j) x) := by
  obtain ⟨r1, r9, r2, r3, r4, r5, r6, r7, r8⟩ := h
  have e8 : uI a (45 + j) x 8 = a 8 := uI_n (by omega)
  have e52 : uI a (45 + j) x 52 = a 52 := uI_n (by omega)
  have e53 : uI a (45 + j) x 53 = a 53 := uI_n (by omega)
  unfold RA
  rw [e8, e52, e53]
  refine ⟨r1, r9, fun q' h' => by rw [uI_n (by omega)]; exact r2 q' h', fun i hi => ?_, r4, r5, fun i hi f hf => ?_, fun b hb => ⟨fun f hf => by rw [uI_n (by omega)]; exact (r7 b hb).1 f hf, fun hs => ?_⟩, fun o ho f hf => by rw [uI_n (by omega)]; exact r8 o ho f hf⟩
  · by_cases e : i = j
    · subst e; rw [upd_s, uI_s]
    · rw [upd_n e, uI_n (by omega)]; exact r3 i hi
  · rw [uI_n (by omega)]; exact r6 i hi f hf
  · rw [uI_n (by omega)] at hs ⊢; exact (r7 b hb).2 hs
theorem RA.u_state (h : RA w st r a) {b : Nat} {x : Int} (hb : b < 100) (hx : x ≠ 2) : RA (upd w (60 + 8 * b) (iI x)) st r (uI a (60 + 8 * b) x) := by
  obtain ⟨r1, r9, r2, r3, r4, r5, r6, r7, r8⟩ := h
  have e8 : uI a (60 + 8 * b) x 8 = a 8 := uI_n (by omega)
  have e52 : uI a (60 + 8 * b) x 52 = a 52 := uI_n (by omega)
  have e53 : uI a (60 + 8 * b) x 53 = a 53 := uI_n (by omega)
  unfold RA
  rw [e8, e52, e53]
  refine ⟨r1, r9, fun q' h' => pt q' (r2 q' h'), fun j hj => by rw [uI_n (by omega)]; exact r3 j hj, by rw [upd_n (by omega)]; exact r4, by rw [upd_n (by omega)]; exact r5, fun i hi f hf => ?_, fun b' hb' => ⟨fun f hf => pt _ ((r7 b' hb').1 f hf), fun hs => pt _ ((r7 b' hb').2 ?_)⟩, fun o ho f hf => pt _ (r8 o ho f hf)⟩
  · have := r1.1 i (by omega)
    rw [upd_n (by omega), uI_n (by omega)]; exact r6 i hi f hf
  · by_cases e : b' = b
    · subst e; rw [uI_s] at hs; exact absurd hs hx
    · rw [uI_n (by omega)] at hs; exact hs
theorem RA.u_for (h : RA w st r a) {b : Nat} (y : Int32) (x : Int) (hb : b < 100) (hx : b < (a 52).toNat → a (60 + 8 * b) ≠ 2) : RA (upd w (61 + 8 * b) y) st r (uI a (61 + 8 * b) x) := by
  obtain ⟨r1, r9, r2, r3, r4, r5, r6, r7, r8⟩ := h
  have e8 : uI a (61 + 8 * b) x 8 = a 8 := uI_n (by omega)
  have e52 : uI a (61 + 8 * b) x 52 = a 52 := uI_n (by omega)
  have e53 : uI a (61 + 8 * b) x 53 = a 53 := uI_n (by omega)
  unfold RA
  rw [e8, e52, e53]
  refine ⟨r1, r9, fun q' h' => by rw [upd_n (by omega), uI_n (by omega)]; exact r2 q' h', fun j hj => by rw [uI_n (by omega)]; exact r3 j hj, by rw [upd_n (by omega)]; exact r4, by rw [upd_n (by omega)]; exact r5, fun i hi f hf => ?_, fun b' hb' => ⟨fun f hf => by rw [upd_n (by omega), uI_n (by omega)]; exact (r7 b' hb').1 f hf, fun hs => ?_⟩, fun o ho f hf => by rw [upd_n (by omega), uI_n (by omega)]; exact r8 o ho f hf⟩
  · have := r1.1 i (by omega)
    rw [upd_n (by omega), uI_n (by omega)]; exact r6 i hi f hf
  · rw [uI_n (by omega)] at hs
    by_cases e : b' = b
    · subst e; exact absurd hs (hx hb')
    · rw [upd_n (by omega), uI_n (by omega)]; exact (r7 b' hb').2 hs
theorem RA.u_send (h : RA w st r a) {b : Nat} (o : Int) (hb : b < 100) : RA (upd (upd w (60 + 8 * b) (iI 2)) (61 + 8 * b) (iI o)) st r (uI (uI a (60 + 8 * b) 2) (61 + 8 * b) o) := by
  obtain ⟨r1, r9, r2, r3, r4, r5, r6, r7, r8⟩ := h
  have e8 : uI (uI a (60 + 8 * b) 2) (61 + 8 * b) o 8 = a 8 := by rw [uI_n (by omega), uI_n (by omega)]
  have e52 : uI (uI a (60 + 8 * b) 2) (61 + 8 * b) o 52 = a 52 := by rw [uI_n (by omega), uI_n (by omega)]
  have e53 : uI (uI a (60 + 8 * b) 2) (61 + 8 * b) o 53 = a 53 := by rw [uI_n (by omega), uI_n (by omega)]
  unfold RA
  rw [e8, e52, e53]
  refine ⟨r1, r9, fun q' h' => pt q' (pt q' (r2 q' h')), fun j hj => by rw [uI_n (by omega), uI_n (by omega)]; exact r3 j hj, by rw [upd_n (by omega), upd_n (by omega)]; exact r4, by rw [upd_n (by omega), upd_n (by omega)]; exact r5, fun i hi f hf => ?_, fun b' hb' => ⟨fun f hf => pt _ (pt _ ((r7 b' hb').1 f hf)), fun hs => ?_⟩, fun o ho f hf => pt _ (pt _ (r8 o ho f hf))⟩
  · have := r1.1 i (by omega)
    rw [upd_n (by omega), upd_n (by omega), uI_n (by omega), uI_n (by omega)]; exact r6 i hi f hf
  · by_cases e : b' = b
    · subst e; rw [upd_s, uI_s]
    · rw [uI_n (by omega), uI_n (by omega)] at hs
      exact pt _ (pt _ ((r7 b' hb').2 hs))
theorem RA.u_lot (h : RA w st r a) {i f : Nat} (x : Int) (hi : i < 12) (hf : f < 3) : RA (upd w (9 + 3 * pm r i + f) (iI x)) st r (uI a (9 + 3 * i + f) x) := by
  obtain ⟨r1, r9, r2, r3, r4, r5, r6, r7, r8⟩ := h
  have hp := r1.1 i hi
  have e8 : uI a (9 + 3 * i + f) x 8 = a 8 := uI_n (by omega)
  have e52 : uI a (9 + 3 * i + f) x 52 = a 52 := uI_n (by omega)
  have e53 : uI a (9 + 3 * i + f) x 53 = a 53 := uI_n (by omega)
  unfold RA
  rw [e8, e52, e53]
  refine ⟨r1, r9, fun q' h' => by rw [upd_n (by omega), uI_n (by omega)]; exact r2 q' h', fun j hj => by rw [uI_n (by omega)]; exact r3 j hj, by rw [upd_n (by omega)]; exact r4, by rw [upd_n (by omega)]; exact r5, fun i' hi' f' hf' => ?_, fun b hb => ⟨fun f hf => by rw [upd_n (by omega), uI_n (by omega)]; exact (r7 b hb).1 f hf, fun hs => ?_⟩, fun o ho f hf => by rw [upd_n (by omega), uI_n (by omega)]; exact r8 o ho f hf⟩
  · have h3 := r6 i' hi' f' hf'
    by_cases e : i' = i
    · subst e
      by_cases e2 : f' = f
      · subst e2; rw [upd_s, uI_s]
      · rw [upd_n (by omega), uI_n (by omega)]; exact h3
    · have h4 : pm r i' ≠ pm r i := fun q => e (r1.2 i' i (by omega) hi q)
      rw [upd_n (by omega), uI_n (by omega)]; exact h3
  · rw [uI_n (by omega)] at hs
    rw [upd_n (by omega), uI_n (by omega)]; exact (r7 b hb).2 hs
theorem RA.u_size (h : RA w st r a) {n : Int} (hn : n ≤ 12) (hl : ∀ i, i < n.toNat → ∀ f, f < 3 → w (9 + 3 * pm r i + f) = iI (a (9 + 3 * i + f))) : RA (upd w 8 (iI n)) st r (uI a 8 n) := by
  obtain ⟨r1, r9, r2, r3, r4, r5, r6, r7, r8⟩ := h
  have e52 : uI a 8 n 52 = a 52 := uI_n (by omega)
  have e53 : uI a 8 n 53 = a 53 := uI_n (by omega)
  unfold RA
  rw [uI_s, e52, e53]
  refine ⟨r1, ⟨hn, r9.2⟩, fun q' h' => pt q' (r2 q' h'), fun j hj => by rw [uI_n (by omega)]; exact r3 j hj, by rw [upd_n (by omega)]; exact r4, by rw [upd_n (by omega)]; exact r5, fun i hi f hf => by rw [upd_n (by omega), uI_n (by omega)]; exact hl i hi f hf, fun b hb => ⟨fun f hf => pt _ ((r7 b hb).1 f hf), fun hs => pt _ ((r7 b hb).2 ?_)⟩, fun o ho f hf => pt _ (r8 o ho f hf)⟩
  rw [uI_n (by omega)] at hs; exact hs
theorem RA.u_bell (h : RA w st r a) (h0 : 0 ≤ a 52) (h1 : a 52 < 100) (hb : ∀ f, f < 7 → w (54 + 8 * (a 52).toNat + f) = iI (a (54 + 8 * (a 52).toNat + f))) (hs : a (60 + 8 * (a 52).toNat) ≠ 2) : RA (upd w 52 (iI (a 52 + 1))) st r (uI a 52 (a 52 + 1)) := by
  obtain ⟨r1, r9, r2, r3, r4, r5, r6, r7, r8⟩ := h
  have e8 : uI a 52 (a 52 + 1) 8 = a 8 := uI_n (by omega)
  have e53 : uI a 52 (a 52 + 1) 53 = a 53 := uI_n (by omega)
  unfold RA
  rw [uI_s, e8, e53]
  refine ⟨r1, ⟨r9.1, by omega, r9.2.2⟩, fun q' h' => pt q' (r2 q' h'), fun j hj => by rw [uI_n (by omega)]; exact r3 j hj, upd_s _ _ _, by rw [upd_n (by omega)]; exact r5, fun i hi f hf => ?_, fun b hb' => ⟨fun f hf => pt _ ?_, fun hs' => pt _ ?_⟩, fun o ho f hf => pt _ (r8 o ho f hf)⟩
  · have := r1.1 i (by omega)
    rw [upd_n (by omega), uI_n (by omega)]; exact r6 i hi f hf
  · by_cases e : b = (a 52).toNat
    · rw [e]; exact hb f hf
    · exact (r7 b (by omega)).1 f hf
  · rw [uI_n (by omega)] at hs'
    by_cases e : b = (a 52).toNat
    · rw [e] at hs'; exact absurd hs' hs
    · exact (r7 b (by omega)).2 hs'
theorem RA.u_order (h : RA w st r a) (h0 : 0 ≤ a 53) (h1 : a 53 < 100) (hb : ∀ f, f < 4 → w (854 + 4 * (a 53).toNat + f) = iI (a (854 + 4 * (a 53).toNat + f))) : RA (upd w 53 (iI (a 53 + 1))) st r (uI a 53 (a 53 + 1)) := by
  obtain ⟨r1, r9, r2, r3, r4, r5, r6, r7, r8⟩ := h
  have e8 : uI a 53 (a 53 + 1) 8 = a 8 := uI_n (by omega)
  have e52 : uI a 53 (a 53 + 1) 52 = a 52 := uI_n (by omega)
  unfold RA
  rw [uI_s, e8, e52]
  refine ⟨r1, ⟨r9.1, r9.2.1, by omega⟩, fun q' h' => pt q' (r2 q' h'), fun j hj => by rw [uI_n (by omega)]; exact r3 j hj, by rw [upd_n (by omega)]; exact r4, upd_s _ _ _, fun i hi f hf => ?_, fun b hb => ⟨fun f hf => pt _ ((r7 b hb).1 f hf), fun hs => pt _ ((r7 b hb).2 ?_)⟩, fun o ho f hf => pt _ ?_⟩
  · have := r1.1 i (by omega)
    rw [upd_n (by omega), uI_n (by omega)]; exact r6 i hi f hf
  · rw [uI_n (by omega)] at hs; exact hs
  · by_cases e : o = (a 53).toNat
    · rw [e]; exact hb f hf
    · exact r8 o (by omega) f hf
end
theorem uI_comm {a : Nat → Int} {p q : Nat} {x y : Int} (h : p ≠ q) : uI (uI a p x) q y = uI (uI a q y) p x := by
  funext i
  unfold uI
  by_cases e : i = q
  · rw [if_pos e, if_neg (by omega), if_pos e]
  · rw [if_neg e]
    by_cases e2 : i = p
    · rw [if_pos e2, if_pos e2]
    · rw [if_neg e2, if_neg e2, if_neg e]
theorem uI_uI (a : Nat → Int) (p : Nat) (x y : Int) : uI (uI a p x) p y = uI a p y := by
  funext i
  unfold uI
  by_cases e : i = p
  · rw [if_pos e, if_pos e]
  · rw [if_neg e, if_neg e, if_neg e]

