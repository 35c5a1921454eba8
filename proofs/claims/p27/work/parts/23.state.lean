/-! The abstract state: a row a of 1254 ints, the history n, H, the text L, t. -/
def uI (a : Nat → Int) (q : Nat) (x : Int) : Nat → Int := fun q' => if q' = q then x else a q'
theorem uI_s (a : Nat → Int) (q : Nat) (x : Int) : uI a q x q = x := by simp [uI]
theorem uI_n {a : Nat → Int} {q q' : Nat} {x : Int} (h : q' ≠ q) : uI a q x q' = a q' := by simp [uI, h]
def iF (a : Nat → Int) : Nat → Int32 := fun q => iI (a q)
theorem upd_iF (a : Nat → Int) (q : Nat) (x : Int) : upd (iF a) q (iI x) = iF (uI a q x) := by
  funext i
  unfold upd iF uI
  split <;> rfl
def cn (P : Nat → Bool) : Nat → Nat
  | 0 => 0
  | n + 1 => cn P n + (if P n then 1 else 0)
theorem cn_le (P : Nat → Bool) (n : Nat) : cn P n ≤ n := by
  induction n with
  | zero => exact Nat.le_refl _
  | succ n ih => unfold cn; split <;> omega
theorem cn_mono (P : Nat → Bool) {m n : Nat} (h : m ≤ n) : cn P m ≤ cn P n := by
  induction n with
  | zero => rw [Nat.le_zero.mp h]; exact Nat.le_refl _
  | succ n ih =>
    by_cases e : m = n + 1
    · rw [e]; exact Nat.le_refl _
    · have := ih (by omega)
      show _ ≤ cn P n + _
      omega
theorem cn_congr {P Q : Nat → Bool} {n : Nat} (h : ∀ i, i < n → P i = Q i) : cn P n = cn Q n := by
  induction n with
  | zero => rfl
  | succ n ih =>
    unfold cn
    rw [ih (fun i hi => h i (by omega)), h n (by omega)]
def hereP (a : Nat → Int) : Nat → Bool := fun b => decide (a (60 + 8 * b) < 2)
def openP (a : Nat → Int) : Nat → Bool := fun o => decide (a (857 + 4 * o) = 0)
def hereN (a : Nat → Int) : Nat := cn (hereP a) (a 52).toNat
def openN (a : Nat → Int) : Nat := cn (openP a) (a 53).toNat
def BL (k : Int) (a : Nat → Int) (i : Nat) : Prop := 0 ≤ a (9 + 3 * i) ∧ 0 ≤ a (10 + 3 * i) ∧ a (9 + 3 * i) + a (10 + 3 * i) ≤ 10000 * k ∧ 0 ≤ a (11 + 3 * i) ∧ a (11 + 3 * i) ≤ 2
def BB (k : Int) (a : Nat → Int) (b : Nat) : Prop := (0 ≤ a (54 + 8 * b) ∧ 0 ≤ a (55 + 8 * b) ∧ a (54 + 8 * b) + a (55 + 8 * b) ≤ 10000) ∧ (0 ≤ a (56 + 8 * b) ∧ a (56 + 8 * b) ≤ 3) ∧ (0 ≤ a (57 + 8 * b) ∧ a (57 + 8 * b) ≤ 2000000) ∧ (1 ≤ a (58 + 8 * b) ∧ a (58 + 8 * b) ≤ 10000) ∧ (0 ≤ a (59 + 8 * b) ∧ a (59 + 8 * b) ≤ 10000 * k) ∧ (0 ≤ a (60 + 8 * b) ∧ a (60 + 8 * b) ≤ 3) ∧ (a (60 + 8 * b) ≠ 3 → 1 ≤ a (54 + 8 * b) + a (55 + 8 * b)) ∧ (a (60 + 8 * b) ≠ 2 → a (61 + 8 * b) = -4) ∧ (-4 ≤ a (61 + 8 * b) ∧ a (61 + 8 * b) ≤ 100)
def BO (a : Nat → Int) (o : Nat) : Prop := (0 ≤ a (854 + 4 * o) ∧ a (854 + 4 * o) ≤ 3) ∧ (1 ≤ a (855 + 4 * o) ∧ a (855 + 4 * o) ≤ 20000) ∧ (0 ≤ a (856 + 4 * o) ∧ a (856 + 4 * o) ≤ 500) ∧ (0 ≤ a (857 + 4 * o) ∧ a (857 + 4 * o) ≤ 2)
def BS (a : Nat → Int) : Prop := (0 ≤ a 45 ∧ a 45 ≤ 50) ∧ (0 ≤ a 46 ∧ a 46 ≤ 100) ∧ (0 ≤ a 47 ∧ a 47 ≤ 1000) ∧ (0 ≤ a 48 ∧ a 48 ≤ 1000) ∧ (0 ≤ a 49 ∧ a 49 ≤ 300) ∧ (1 ≤ a 50 ∧ a 50 ≤ 50) ∧ (1 ≤ a 51 ∧ a 51 ≤ 20000)
def BM (a : Nat → Int) : Prop := (0 ≤ a 0 ∧ a 0 ≤ 1000000) ∧ (0 ≤ a 1 ∧ a 1 ≤ 1000000) ∧ 0 ≤ a 6 ∧ 0 ≤ a 7 ∧ a 6 + a 7 ≤ 20000 ∧ (0 ≤ a 8 ∧ a 8 ≤ 12) ∧ (0 ≤ a 52 ∧ a 52 ≤ 100) ∧ (0 ≤ a 53 ∧ a 53 ≤ 100)
def Bd (k : Int) (a : Nat → Int) : Prop := BM a ∧ BS a ∧ (∀ i, i < 12 → BL k a i) ∧ (∀ b, b < (a 52).toNat → BB k a b) ∧ (∀ o, o < (a 53).toNat → BO a o) ∧ hereN a ≤ 12 ∧ openN a ≤ 8
theorem Bd.mono {k k' : Int} {a : Nat → Int} (h : Bd k a) (hk : k ≤ k') : Bd k' a := by
  obtain ⟨h1, h2, h3, h4, h5, h6⟩ := h
  refine ⟨h1, h2, fun i hi => ?_, fun b hb => ?_, h5, h6⟩
  · have := h3 i hi
    unfold BL at *
    omega
  · have := h4 b hb
    unfold BB at *
    obtain ⟨q1, q2, q3, q4, q5, q6⟩ := this
    exact ⟨q1, q2, q3, q4, ⟨q5.1, by omega⟩, q6⟩
def RA (w st r : Nat → Int32) (a : Nat → Int) : Prop := PM r ∧ (a 8 ≤ 12 ∧ a 52 ≤ 100 ∧ a 53 ≤ 100) ∧ (∀ q, q < 9 → w q = iI (a q)) ∧ (∀ j, j < 7 → st j = iI (a (45 + j))) ∧ w 52 = iI (a 52) ∧ w 53 = iI (a 53) ∧ (∀ i, i < (a 8).toNat → ∀ f, f < 3 → w (9 + 3 * pm r i + f) = iI (a (9 + 3 * i + f))) ∧ (∀ b, b < (a 52).toNat → (∀ f, f < 7 → w (54 + 8 * b + f) = iI (a (54 + 8 * b + f))) ∧ (a (60 + 8 * b) = 2 → w (61 + 8 * b) = iI (a (61 + 8 * b)))) ∧ (∀ o, o < (a 53).toNat → ∀ f, f < 4 → w (854 + 4 * o + f) = iI (a (854 + 4 * o + f)))
theorem RA_RC {k : Int} {w st r : Nat → Int32} {a : Nat → Int} (R : RA w st r a) (B : Bd k a) : RC w st r (iF a) := by
  obtain ⟨R1, R9, R2, R3, R4, R5, R6, R7, R8⟩ := R
  obtain ⟨b1, b2, b3, b4, b5, b6, b7⟩ := B
  unfold BM at b1
  refine ⟨R1, R2, R3, R4, R5, ⟨(a 8).toNat, by omega, iI_N (by omega), fun i hi f hf => R6 i hi f hf⟩, ⟨(a 52).toNat, by omega, iI_N (by omega), fun b hb => ?_⟩, ⟨(a 53).toNat, by omega, iI_N (by omega), fun o ho f hf => R8 o ho f hf⟩⟩
  obtain ⟨c1, c2, c3, c4, c5, c6, c7, c8, c9⟩ := b4 b hb
  refine ⟨(R7 b hb).1, fun h => (R7 b hb).2 ?_, fun h => ?_⟩
  · have h2 : iI (a (60 + 8 * b)) = iI 2 := h
    exact (iI_inj (by omega) (by omega)).mp h2
  · show iI (a (61 + 8 * b)) = iI (-4)
    rw [c8 (fun q => h (by show iI _ = iI 2; rw [q]))]
theorem RC_RA {k : Int} {w st r : Nat → Int32} {a : Nat → Int} (R : RC w st r (iF a)) (B : Bd k a) : RA w st r a := by
  obtain ⟨R1, R2, R3, R4, R5, ⟨n, hn, e8, R6⟩, ⟨nb, hnb, e52, R7⟩, ⟨no, hno, e53, R8⟩⟩ := R
  obtain ⟨b1, b2, b3, b4, b5, b6, b7⟩ := B
  unfold BM at b1
  have i1 : a 8 = n := by
    have : iI (a 8) = iI n := e8.trans (nI_i n)
    exact (iI_inj (by omega) (by omega)).mp this
  have i2 : a 52 = nb := by
    have : iI (a 52) = iI nb := e52.trans (nI_i nb)
    exact (iI_inj (by omega) (by omega)).mp this
  have i3 : a 53 = no := by
    have : iI (a 53) = iI no := e53.trans (nI_i no)
    exact (iI_inj (by omega) (by omega)).mp this
  refine ⟨R1, by omega, R2, R3, R4, R5, fun i hi f hf => R6 i (by omega) f hf, fun b hb => ⟨(R7 b (by omega)).1, fun h => (R7 b (by omega)).2.1 ?_⟩, fun o ho f hf => R8 o (by omega) f hf⟩
  show iI _ = iI 2
  rw [h]
/-- the class's history -/
def HC (M : MM) (n : Nat) (H : Nat → Nat → Int) : Prop := M 6 0 = iI n ∧ n ≤ 4 ∧ (∀ i, i < 4 → 1 ≤ pm (M 35) i ∧ pm (M 35) i < 5) ∧ (∀ i j, i < 4 → j < 4 → pm (M 35) i = pm (M 35) j → i = j) ∧ (∀ k, k < 5 → PM (M (50 + k))) ∧ ∀ i, i < n → RA (M (pm (M 35) i)) (M (40 + pm (M 35) i)) (M (50 + pm (M 35) i)) (H i)
def TX (L : Nat) (t : Nat → Int) : Prop := L ≤ 60 ∧ ∀ i, i < L → 32 ≤ t i ∧ t i ≤ 126
def VC (M : MM) (a : Nat → Int) (n : Nat) (H : Nat → Nat → Int) (L : Nat) (t : Nat → Int) : Prop := RA (M 0) (M 40) (M 50) a ∧ HC M n H ∧ M 5 0 = iI L ∧ ∀ i, i < L → M 14 i = iI (t i)
def VB (k : Int) (a : Nat → Int) (n : Nat) (H : Nat → Nat → Int) (L : Nat) (t : Nat → Int) : Prop := Bd k a ∧ n ≤ 4 ∧ (∀ i, i < n → Bd k (H i)) ∧ TX L t
def pN (n : Nat) : Nat := if n = 4 then 4 else n + 1
def pH (n : Nat) (H : Nat → Nat → Int) (a : Nat → Int) : Nat → Nat → Int := fun i => if n = 4 then (if i = 3 then a else H (i + 1)) else (if i = n then a else H i)
theorem VB.push {k k' : Int} {a a' : Nat → Int} {n : Nat} {H : Nat → Nat → Int} {L : Nat} {t : Nat → Int} (h : VB k a n H L t) (hk : k ≤ k') (h' : Bd k' a') : VB k' a' (pN n) (pH n H a) L t := by
  obtain ⟨h1, h2, h3, h4⟩ := h
  refine ⟨h', ?_, fun i hi => ?_, h4⟩
  · unfold pN; split <;> omega
  · unfold pN at hi
    unfold pH
    by_cases e : n = 4
    · rw [if_pos e] at hi ⊢
      by_cases e2 : i = 3
      · rw [if_pos e2]; exact h1.mono hk
      · rw [if_neg e2]; exact (h3 (i + 1) (by omega)).mono hk
    · rw [if_neg e] at hi ⊢
      by_cases e2 : i = n
      · rw [if_pos e2]; exact h1.mono hk
      · rw [if_neg e2]; exact (h3 i (by omega)).mono hk
def FC (M M1 : MM) : Prop := ∀ G, 20 ≤ G → G < 32 → M1 G = M G
def OPC (o : Option (Int32 × MM)) (M : MM) (r : Int32) (a : Nat → Int) (n : Nat) (H : Nat → Nat → Int) (L : Nat) (t : Nat → Int) : Prop := ∃ M1, o = some (r, M1) ∧ VC M1 a n H L t ∧ FC M M1
/-- one step of the class at its own works -/
def CW (M M1 : MM) (a : Nat → Int) : Prop := RA (M1 0) (M1 40) (M1 50) a ∧ ∀ G, G ≠ 0 → G ≠ 40 → G ≠ 50 → G ≠ 60 → G ≠ 65 → M1 G = M G
theorem CW.trans {M M1 M2 : MM} {a b : Nat → Int} (h : CW M M1 a) (h2 : CW M1 M2 b) : CW M M2 b := ⟨h2.1, fun G g1 g2 g3 g4 g5 => (h2.2 G g1 g2 g3 g4 g5).trans (h.2 G g1 g2 g3 g4 g5)⟩
theorem VC.step {M M1 : MM} {a a' : Nat → Int} {n : Nat} {H : Nat → Nat → Int} {L : Nat} {t : Nat → Int} (h : VC M a n H L t) (hw : CW M M1 a') : VC M1 a' n H L t := by
  obtain ⟨h1, ⟨g1, g2, g3, g4, g5, g6⟩, h3, h4⟩ := h
  obtain ⟨w1, hF⟩ := hw
  refine ⟨w1, ⟨?_, g2, ?_, ?_, ?_, ?_⟩, ?_, ?_⟩
  · rw [hF 6 (by omega) (by omega) (by omega) (by omega) (by omega)]; exact g1
  · rw [hF 35 (by omega) (by omega) (by omega) (by omega) (by omega)]; exact g3
  · rw [hF 35 (by omega) (by omega) (by omega) (by omega) (by omega)]; exact g4
  · intro k hk
    by_cases e : k = 0
    · subst e; exact w1.1
    · rw [hF _ (by omega) (by omega) (by omega) (by omega) (by omega)]; exact g5 k hk
  · intro i hi
    have := g3 i (by omega)
    rw [hF 35 (by omega) (by omega) (by omega) (by omega) (by omega), hF (pm (M 35) i) (by omega) (by omega) (by omega) (by omega) (by omega), hF (40 + pm (M 35) i) (by omega) (by omega) (by omega) (by omega) (by omega), hF (50 + pm (M 35) i) (by omega) (by omega) (by omega) (by omega) (by omega)]
    exact g6 i hi
  · rw [hF 5 (by omega) (by omega) (by omega) (by omega) (by omega)]; exact h3
  · rw [hF 14 (by omega) (by omega) (by omega) (by omega) (by omega)]; exact h4
theorem CW.FC {M M1 : MM} {a : Nat → Int} (h : CW M M1 a) : FC M M1 := fun G g1 g2 => h.2 G (by omega) (by omega) (by omega) (by omega) (by omega)
theorem VC.cw {M : MM} {a : Nat → Int} {n : Nat} {H : Nat → Nat → Int} {L : Nat} {t : Nat → Int} (h : VC M a n H L t) : CW M M a := ⟨h.1, fun _ _ _ _ _ _ => rfl⟩
theorem OPC.ofCW {o : Option (Int32 × MM)} {M M1 : MM} {r : Int32} {a a' : Nat → Int} {n : Nat} {H : Nat → Nat → Int} {L : Nat} {t : Nat → Int} (h : VC M a n H L t) (e : o = some (r, M1)) (hw : CW M M1 a') : OPC o M r a' n H L t := ⟨M1, e, h.step hw, hw.FC⟩
theorem OPC.same {o : Option (Int32 × MM)} {M : MM} {r : Int32} {a : Nat → Int} {n : Nat} {H : Nat → Nat → Int} {L : Nat} {t : Nat → Int} (h : VC M a n H L t) (e : o = some (r, M)) : OPC o M r a n H L t := ⟨M, e, h, fun _ _ _ => rfl⟩
theorem VB.succ {k : Int} {a : Nat → Int} {n : Nat} {H : Nat → Nat → Int} {L : Nat} {t : Nat → Int} (h : VB k a n H L t) : VB (k + 1) a n H L t := ⟨h.1.mono (by omega), h.2.1, fun i hi => (h.2.2.1 i hi).mono (by omega), h.2.2.2⟩

