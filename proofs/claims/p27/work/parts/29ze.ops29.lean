section
/-! Frames: what is known while a text is read. -/
def fwt (a : Nat → Int) (hb : Nat → Nat) : Nat → Int := fun k => wgt a (hb k)
def vl (a : Nat → Int) (hb dp : Nat → Nat) (d k : Nat) : Int := wgt a (hb k) * 2 ^ (dp k - d)
def LVL (a : Nat → Int) (hb dp : Nat → Nat) (x y d : Nat) (V : Int) (D : Nat) : Prop := x < y ∧ (∀ k, x ≤ k → k < y → d ≤ dp k ∧ dp k ≤ d + D ∧ vl a hb dp d k ≤ V) ∧ (∃ k, x ≤ k ∧ k < y ∧ dp k = d + D) ∧ V % 2 ^ D = 0 ∧ ∀ q : Int, q % 2 ^ D = 0 → (∀ k, x ≤ k → k < y → vl a hb dp d k ≤ q) → V ≤ q
def lod (M : MM) (q : Nat) (a : Nat → Int) (hb dp : Nat → Nat) (x y d : Nat) : Prop := M (70 + q) 0 = iI (sm (fwt a hb) y - sm (fwt a hb) x) ∧ ∃ (V : Int) (D : Nat), M (70 + q) 1 = iI V ∧ M (70 + q) 2 = iI (2 ^ D) ∧ LVL a hb dp x y d V D
def fgI (a : Nat → Int) (ex pos op mn bm ds : Nat) (sl : Int) (hb dp c bc : Nat → Nat) : Prop := (op ≤ 5 ∧ ds ≤ 5 ∧ op ≤ ds ∧ ex ≤ 3 ∧ bm ≤ pos ∧ 0 ≤ sl ∧ sl ≤ 1000000 ∧ 2 * mn ≤ pos + (if ex = 0 then 0 else 1)) ∧ (∀ k, k < mn → hb k < (a 52).toNat ∧ a (60 + 8 * hb k) < 2 ∧ dp k ≤ ds) ∧ ((∃ k, k < mn ∧ dp k = ds) ∨ (ex = 0 ∧ ds = op)) ∧ (c 0 = 0 ∧ (ex = 0 → c op = mn)) ∧ (∀ i, i < op → bc i ≤ 1 ∧ (bc i = 0 → c (i + 1) = c i)) ∧ (∀ i, i ≤ op → c i ≤ mn) ∧ (ex = 1 → 1 ≤ op ∧ bc (op - 1) = 0) ∧ (ex = 2 → 1 ≤ op ∧ bc (op - 1) = 1) ∧ (ex = 3 → op = 0)
def fcI (M : MM) (a : Nat → Int) (ex op mn bm ds : Nat) (sl : Int) (hb dp c bc : Nat → Nat) : Prop := (M 10 0 = iI ex ∧ M 10 6 = iI op ∧ M 10 8 = iI mn ∧ M 10 9 = iI bm ∧ M 10 10 = iI ds ∧ M 10 11 = iI sl) ∧ (∀ i, i < op → M 12 i = iI (bc i)) ∧ (∀ i, i < op → bc i = 1 → lod M i a hb dp (c i) (c (i + 1)) (i + 1)) ∧ (ex ≠ 0 → lod M 5 a hb dp (c op) mn op) ∧ (∀ b, b < 100 → (M 13 b = 0 ↔ ∀ k, k < mn → hb k ≠ b))
def CFr (M M1 : MM) : Prop := ∀ G, G ≠ 10 → G ≠ 12 → G ≠ 13 → ¬ (70 ≤ G ∧ G < 76) → M1 G = M G
theorem CFr.refl (M : MM) : CFr M M := fun _ _ _ _ _ => rfl
theorem CFr.trans {M M1 M2 : MM} (h : CFr M M1) (h2 : CFr M1 M2) : CFr M M2 := fun G a b c d => (h2 G a b c d).trans (h G a b c d)
theorem CFr.up {M M1 : MM} (h : CFr M M1) {G i : Nat} (x : Int32) (hG : G = 10 ∨ G = 12 ∨ G = 13 ∨ (70 ≤ G ∧ G < 76)) : CFr M (up2 M1 G i x) := fun G' a b c d => by
  rw [up2_gn (by omega)]; exact h G' a b c d
theorem VC.cfr {M M1 : MM} {a : Nat → Int} {n : Nat} {H : Nat → Nat → Int} {L : Nat} {t : Nat → Int} (h : VC M a n H L t) (f : CFr M M1) : VC M1 a n H L t := h.scr (fun G _ => f G (by omega) (by omega) (by omega) (by omega))
theorem lod.congr {M M1 : MM} {q : Nat} {a : Nat → Int} {hb dp : Nat → Nat} {x y d : Nat} (h : lod M q a hb dp x y d) (e : M1 (70 + q) = M (70 + q)) : lod M1 q a hb dp x y d := by
  unfold lod
  rw [e]; exact h
theorem fcI.pr {M : MM} {a : Nat → Int} {ex op mn bm ds : Nat} {sl : Int} {hb dp c bc : Nat → Nat} (h : fcI M a ex op mn bm ds sl hb dp c bc) {i : Nat} (x : Int32) (hi : i = 1 ∨ i = 2) (hop : op ≤ 5) : fcI (up2 M 10 i x) a ex op mn bm ds sl hb dp c bc := by
  obtain ⟨⟨h1, h2, h3, h4, h5, h6⟩, h7, h8, h9, h10⟩ := h
  refine ⟨⟨?_, ?_, ?_, ?_, ?_, ?_⟩, fun i hi => ?_, fun i hi hb => (h8 i hi hb).congr ?_, fun he => (h9 he).congr ?_, fun b hb => ?_⟩
  · rw [up2_in _ (by omega)]; exact h1
  · rw [up2_in _ (by omega)]; exact h2
  · rw [up2_in _ (by omega)]; exact h3
  · rw [up2_in _ (by omega)]; exact h4
  · rw [up2_in _ (by omega)]; exact h5
  · rw [up2_in _ (by omega)]; exact h6
  · rw [up2_gn (by omega)]; exact h7 i hi
  · rw [up2_gn (by omega)]
  · rw [up2_gn (by omega)]
  · rw [up2_gn (by omega)]; exact h10 b hb
/-! An opened beam. -/
def uN1 (f : Nat → Nat) (q x : Nat) : Nat → Nat := fun i => if i = q then x else f i
theorem uN1_s (f : Nat → Nat) (q x : Nat) : uN1 f q x q = x := by unfold uN1; rw [if_pos rfl]
theorem uN1_n {f : Nat → Nat} {q x i : Nat} (h : i ≠ q) : uN1 f q x i = f i := by unfold uN1; rw [if_neg h]
def mxN (x y : Nat) : Nat := if x < y then y else x
theorem c_open {M : MM} {a : Nat → Int} {pos op mn bm ds : Nat} {sl : Int} {hb dp c bc : Nat → Nat} (h : fcI M a 0 op mn bm ds sl hb dp c bc) (g : fgI a 0 pos op mn bm ds sl hb dp c bc) (hL : pos < 60) (h5 : op < 5) : ∃ M1, f_X1_openBeam M = some (0, M1) ∧ CFr M M1 ∧ fcI M1 a 0 (op + 1) mn (bm + 1) (mxN ds (op + 1)) sl hb dp (uN1 c (op + 1) (c op)) (uN1 bc op 0) := by
  obtain ⟨⟨h1, h2, h3, h4, h6, h7⟩, h8, h9, h10, h11⟩ := h
  obtain ⟨⟨g1, g2, g3, g4, g5, g6, g7, g8⟩, g9⟩ := g
  have eo : iI (op : Int) + 1 = iI ((op + 1 : Nat) : Int) := by rw [Z1, iI_add]; congr 1
  have eb : iI (bm : Int) + 1 = iI ((bm + 1 : Nat) : Int) := by rw [Z1, iI_add]; congr 1
  have to : (iI (op : Int)).toNatClampNeg = op := iI_lo (by omega)
  have em : jmax (iI (ds : Int)) (iI ((op + 1 : Nat) : Int)) = iI ((mxN ds (op + 1) : Nat) : Int) := by
    rw [e_jmax (by omega) (by omega)]
    congr 1
    unfold mxN
    by_cases q : ds < op + 1
    · rw [if_pos q, if_pos (by omega)]
    · rw [if_neg q, if_neg (by omega)]
  have n0 : vp_nar .boolean (0 : Int32) = 0 := rfl
  refine ⟨up2 (up2 (up2 (up2 M 12 op 0) 10 6 (iI ((op + 1 : Nat) : Int))) 10 9 (iI ((bm + 1 : Nat) : Int))) 10 10 (iI ((mxN ds (op + 1) : Nat) : Int)), ?_, ((((CFr.refl M).up _ (by omega)).up _ (by omega)).up _ (by omega)).up _ (by omega), ?_⟩
  · unfold f_X1_openBeam
    rw [h1, if_pos (by rfl), h2, if_pos (by rw [Z5, iI_lt (by omega) (by omega)]; omega), if_pos (vinI h5 (by omega)), to, n0, letB_e, up2_gn (show 10 ≠ 12 by omega), h2, eo, letB_e, up2_in 10 (show 9 ≠ 6 by omega), up2_gn (show 10 ≠ 12 by omega), h4, eb, letB_e, up2_in 10 (show 10 ≠ 9 by omega), up2_in 10 (show 10 ≠ 6 by omega), up2_gn (show 10 ≠ 12 by omega), h6, up2_in 10 (show 6 ≠ 9 by omega), up2_eq, em, letB_e]
  · refine ⟨⟨?_, ?_, ?_, ?_, ?_, ?_⟩, fun i hi => ?_, fun i hi hbc => ?_, fun he => absurd rfl he, fun b hb => ?_⟩
    · rw [up2_in _ (by omega), up2_in _ (by omega), up2_in _ (by omega), up2_gn (by omega)]; exact h1
    · rw [up2_in _ (by omega), up2_in _ (by omega), up2_eq]
    · rw [up2_in _ (by omega), up2_in _ (by omega), up2_in _ (by omega), up2_gn (by omega)]; exact h3
    · rw [up2_in _ (by omega), up2_eq]
    · rw [up2_eq]
    · rw [up2_in _ (by omega), up2_in _ (by omega), up2_in _ (by omega), up2_gn (by omega)]; exact h7
    · rw [up2_gn (by omega), up2_gn (by omega), up2_gn (by omega), up2_gr]
      by_cases e : i = op
      · rw [e, upd_s, uN1_s]; rfl
      · rw [upd_n e, uN1_n e]; exact h8 i (by omega)
    · by_cases e : i = op
      · rw [e, uN1_s] at hbc; omega
      · rw [uN1_n e] at hbc
        rw [uN1_n (by omega), uN1_n (by omega)]
        exact (h9 i (by omega) hbc).congr (by rw [up2_gn (by omega), up2_gn (by omega), up2_gn (by omega), up2_gn (by omega)])
    · rw [up2_gn (by omega), up2_gn (by omega), up2_gn (by omega), up2_gn (by omega)]; exact h11 b hb
theorem g_open {a : Nat → Int} {pos op mn bm ds : Nat} {sl : Int} {hb dp c bc : Nat → Nat} (g : fgI a 0 pos op mn bm ds sl hb dp c bc) (h5 : op < 5) : fgI a 0 (pos + 1) (op + 1) mn (bm + 1) (mxN ds (op + 1)) sl hb dp (uN1 c (op + 1) (c op)) (uN1 bc op 0) := by
  obtain ⟨⟨g1, g2, g3, g4, g5, g6, g7, g8⟩, g9, g10, g11, g12, g13, g14, g15, g16⟩ := g
  have hm : mxN ds (op + 1) ≤ 5 ∧ op + 1 ≤ mxN ds (op + 1) ∧ ds ≤ mxN ds (op + 1) := by unfold mxN; split <;> omega
  refine ⟨⟨by omega, hm.1, hm.2.1, by omega, by omega, g6, g7, by rw [if_pos rfl] at g8 ⊢; omega⟩, fun k hk => ⟨(g9 k hk).1, (g9 k hk).2.1, by have := (g9 k hk).2.2; omega⟩, ?_, ⟨by rw [uN1_n (by omega)]; exact g11.1, fun _ => by rw [uN1_s]; exact g11.2 rfl⟩, fun i hi => ?_, fun i hi => ?_, fun h => absurd h (by omega), fun h => absurd h (by omega), fun h => absurd h (by omega)⟩
  · by_cases q : ds < op + 1
    · exact Or.inr ⟨rfl, by unfold mxN; rw [if_pos q]⟩
    · have e : mxN ds (op + 1) = ds := by unfold mxN; rw [if_neg q]
      rw [e]
      rcases g10 with h | ⟨_, h⟩
      · exact Or.inl h
      · omega
  · by_cases e : i = op
    · subst e
      rw [uN1_s, uN1_s, uN1_n (by omega)]
      exact ⟨by omega, fun _ => rfl⟩
    · rw [uN1_n e, uN1_n (by omega), uN1_n (by omega)]
      exact g12 i (by omega)
  · by_cases e : i = op + 1
    · rw [e, uN1_s]; exact g13 op (by omega)
    · rw [uN1_n e]; exact g13 i (by omega)
end
