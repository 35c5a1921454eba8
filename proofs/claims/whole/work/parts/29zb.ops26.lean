section
/-! The class's packing, all sets. -/
theorem l_16 {M : MM} {W : Nat → Int} {l : Int} {n : Nat} (hn : n ≤ 12) (hl : 0 ≤ l) (hl2 : l ≤ 20000) (hW : ∀ i, i < n → 0 ≤ W i ∧ W i ≤ l) (h7 : M 7 0 = iI n) (h8 : ∀ i, i < n → M 8 i = iI (W i)) : ∀ (j fu m : Nat) (w : Nat → Int32), m + 1 + j = 2 ^ n → j < fu → (∀ q, q ≤ m → w q = iI (Btb W l n m q)) → ∃ w', lp_X8_fewestWagons_16 fu (sg M 9 w) (iI l) (iI ((2 ^ n : Nat) : Int)) (iI ((m + 1 : Nat) : Int)) = some (iI (Btb W l n (2 ^ n - 1) (2 ^ n - 1) / 32768), sg M 9 w') := by
  have hp12 := p2_le hn
  have e12 : (2 : Nat) ^ 12 = 4096 := rfl
  have hp := Nat.two_pow_pos n
  intro j
  induction j with
  | zero =>
    intro fu m w hm hf hw
    obtain ⟨f, rfl⟩ : ∃ f, fu = f + 1 := ⟨fu - 1, by omega⟩
    have em : m = 2 ^ n - 1 := by omega
    have es : iI ((2 ^ n : Nat) : Int) - 1 = iI ((m : Nat) : Int) := by rw [Z1, iI_sub]; congr 1; omega
    have vs : vin (iI (m : Int)) 4096 := vinI (by omega) (by omega)
    have ts : (iI (m : Int)).toNatClampNeg = m := iI_lo (by omega)
    obtain ⟨i1, i2, i3⟩ := INV_all hn hl hl2 hW m (by omega) m (Nat.le_refl _) (by omega)
    have i4 := i3 0 (by omega) (Nat.mod_one _)
    refine ⟨w, ?_⟩
    unfold lp_X8_fewestWagons_16
    rw [if_pos (by rw [iI_le (by omega) (by omega)]; omega), es, if_pos vs]
    simp only [ts, sg_s]
    rw [hw m (Nat.le_refl _), Z32768, iI_div i1 (by omega) (by omega) (by omega), ← em]
  | succ j ih =>
    intro fu m w hm hf hw
    obtain ⟨f, rfl⟩ : ∃ f, fu = f + 1 := ⟨fu - 1, by omega⟩
    have hI := INV_all hn hl hl2 hW m (by omega)
    have e1 : iI ((m + 1 : Nat) : Int) + 1 = iI ((m + 1 + 1 : Nat) : Int) := by rw [Z1, iI_add]; congr 1
    have vs : vin (iI ((m + 1 : Nat) : Int)) 4096 := vinI (by omega) (by omega)
    have ts : (iI ((m + 1 : Nat) : Int)).toNatClampNeg = m + 1 := iI_lo (by omega)
    have s7 : sg M 9 w 7 0 = iI n := by rw [sg_n (by omega)]; exact h7
    have e13 := l_13 (M := sg M 9 w) hn hl hl2 hW hI (by omega) s7 (fun i hi => by rw [sg_n (by omega)]; exact h8 i hi) (fun q hq => by rw [sg_s]; exact hw q hq) n FU 0 (by omega) (by unfold FU; omega)
    have eb : f_X8_bestFor (sg M 9 w) (iI ((m + 1 : Nat) : Int)) (iI l) = some (iI (BST W l n m n), sg M 9 w) := by
      have e0 : BST W l n m 0 = 32768 * (n + 1) := rfl
      rw [e0] at e13
      unfold f_X8_bestFor
      rw [s7, Z32768, Z1, iI_add, iI_mul]
      exact e13
    obtain ⟨w', hw'⟩ := ih f (m + 1) (upd w (m + 1) (iI (BST W l n m n))) (by omega) (by omega) (fun q hq => by
      by_cases c : q = m + 1
      · rw [c, upd_s, Btb_s]
      · rw [upd_n c, Btb_o (by omega)]; exact hw q (by omega))
    refine ⟨w', ?_⟩
    unfold lp_X8_fewestWagons_16
    rw [if_neg (by rw [iI_le (by omega) (by omega)]; omega), eb, bnd2_s, if_pos vs]
    simp only [ts, up2_sg, letB_e, e1]
    exact hw'
theorem c_fewest {M : MM} {W : Nat → Int} {l : Int} {n : Nat} (hn : n ≤ 12) (hl : 0 ≤ l) (hl2 : l ≤ 20000) (hW : ∀ i, i < n → 0 ≤ W i ∧ W i ≤ l) (h7 : M 7 0 = iI n) (h8 : ∀ i, i < n → M 8 i = iI (W i)) : ∃ w', f_X8_fewestWagons M (iI l) = some (iI (Btb W l n (2 ^ n - 1) (2 ^ n - 1) / 32768), sg M 9 w') := by
  have hp12 := p2_le hn
  have e12 : (2 : Nat) ^ 12 = 4096 := rfl
  have hp := Nat.two_pow_pos n
  obtain ⟨w', hw'⟩ := l_16 (M := M) hn hl hl2 hW h7 h8 (2 ^ n - 1) FU 0 (upd (M 9) 0 (iI l)) (by omega) (by unfold FU; omega) (fun q hq => by
    obtain rfl : q = 0 := by omega
    rw [upd_s, Btb, uI_s])
  refine ⟨w', ?_⟩
  have e0 : up2 M 9 0 (iI l) = sg M 9 (upd (M 9) 0 (iI l)) := by
    have := up2_sg M 9 0 (M 9) (iI l)
    rw [sg_id] at this
    exact this
  unfold f_X8_fewestWagons
  rw [if_pos (by decide), show (0 : Int32).toNatClampNeg = 0 from by decide, letB_e, e0, h7, shl_1 n (by omega)]
  exact hw'
/-! The reference's packing. -/
def RS (M : MM) (a : Nat → Int) (g e : Nat → Int32) : MM := RF (sg (sg M 25 g) 26 e) a
theorem RS_25 (M : MM) (a : Nat → Int) (g e : Nat → Int32) : RS M a g e 25 = g := by unfold RS; rw [RF_n (by omega), sg_n (by omega), sg_s]
theorem RS_26 (M : MM) (a : Nat → Int) (g e : Nat → Int32) : RS M a g e 26 = e := by unfold RS; rw [RF_n (by omega), sg_s]
theorem RS_24 (M : MM) (a : Nat → Int) (g e : Nat → Int32) : RS M a g e 24 = M 24 := by unfold RS; rw [RF_n (by omega), sg_n (by omega), sg_n (by omega)]
theorem RS_set (M : MM) (a : Nat → Int) (g e : Nat → Int32) : f_X11_setting (RS M a g e) 6 = some (iI (a 51), RS M a g e) := r_set6 _ a
theorem up2_R25 (M : MM) (a : Nat → Int) (g e : Nat → Int32) (z : Nat) (x : Int32) : up2 (RS M a g e) 25 z x = RS M a (upd g z x) e := by
  funext G
  by_cases h : G = 25
  · subst h; rw [up2_gr, RS_25, RS_25]
  · rw [up2_gn h]
    unfold RS
    by_cases h1 : G = 21
    · subst h1; unfold RF; rw [sg_s, sg_s]
    · rw [RF_n h1, RF_n h1]
      by_cases h2 : G = 26
      · subst h2; rw [sg_s, sg_s]
      · rw [sg_n h2, sg_n h2, sg_n h, sg_n h]
theorem up2_R26 (M : MM) (a : Nat → Int) (g e : Nat → Int32) (z : Nat) (x : Int32) : up2 (RS M a g e) 26 z x = RS M a g (upd e z x) := by
  funext G
  by_cases h : G = 26
  · subst h; rw [up2_gr, RS_26, RS_26]
  · rw [up2_gn h]
    unfold RS
    by_cases h1 : G = 21
    · subst h1; unfold RF; rw [sg_s, sg_s]
    · rw [RF_n h1, RF_n h1, sg_n h, sg_n h]
theorem upd_id (f : Nat → Int32) (z : Nat) : upd f z (f z) = f := by
  funext i
  by_cases h : i = z
  · rw [h, upd_s]
  · rw [upd_n h]
theorem l_51_s {M : MM} {a : Nat → Int} {g e : Nat → Int32} {n z k : Nat} {x : Int32} {G og ol w E : Int} (hn : n ≤ 12) (hz : z < 4096) (hk : k < n) (c : tb z k) (hg : g z = iI G) (he : e z = iI E) (hE : B31 E) (hG : 0 ≤ G ∧ G ≤ 100) (h1 : g (z - 2 ^ k) = iI og) (h2 : e (z - 2 ^ k) = iI ol) (h3 : M 24 k = iI w) (b1 : 0 ≤ og ∧ og ≤ 100) (b2 : 0 ≤ ol ∧ ol ≤ 32768) (b3 : 0 ≤ w ∧ w ≤ 32768) (b4 : 0 ≤ a 51 ∧ a 51 ≤ 20000) (fu : Nat) :
    lp_X11_wagons_51 (fu + 1) (RS M a g e) x (iI n) (iI z) (iI k) =
      lp_X11_wagons_51 fu (if (if ol + w ≤ a 51 then og else og + 1) < G ∨ ((if ol + w ≤ a 51 then og else og + 1) = G ∧ (if ol + w ≤ a 51 then ol + w else w) < E) then RS M a (upd g z (iI (if ol + w ≤ a 51 then og else og + 1))) (upd e z (iI (if ol + w ≤ a 51 then ol + w else w))) else RS M a g e) x (iI n) (iI z) (iI ((k + 1 : Nat) : Int)) := by
  have hle := tb_le c
  have hp := Nat.two_pow_pos k
  have er := clr (n := z) (k := k) (by omega) (by omega) c
  have vr : vin (iI ((z - 2 ^ k : Nat) : Int)) 4096 := vinI (by omega) (by omega)
  have tr : (iI ((z - 2 ^ k : Nat) : Int)).toNatClampNeg = z - 2 ^ k := iI_lo (by omega)
  have vz : vin (iI (z : Int)) 4096 := vinI (by omega) (by omega)
  have tz : (iI (z : Int)).toNatClampNeg = z := iI_lo (by omega)
  have vk : vin (iI (k : Int)) 12 := vinI (by omega) (by omega)
  have tk : (iI (k : Int)).toNatClampNeg = k := iI_lo (by omega)
  have e1 : iI (k : Int) + 1 = iI ((k + 1 : Nat) : Int) := by rw [Z1, iI_add]; congr 1
  have c10 : ¬ (1 : Int32) = 0 := by decide
  have og0 : iI og + 0 = iI og := by rw [Z0, iI_add, Int.add_zero]
  have og1 : iI og + 1 = iI (og + 1) := by rw [Z1, iI_add]
  have gid : upd g z (iI G) = g := by rw [← hg]; exact upd_id g z
  have eid : upd e z (iI E) = e := by rw [← he]; exact upd_id e z
  have hbit := (bt_tb (n := z) (k := k) (by omega) (by omega)).mpr c
  rw [lp_X11_wagons_51]
  rw [if_neg (by rw [iI_le (by omega) (by omega)]; omega), if_pos hbit]
  simp only [er, if_pos vr, if_pos vk, if_pos vz, tr, tz, tk, RS_set, bnd2_s, RS_24, RS_25, RS_26, h1, h2, h3, iI_add, og0, og1, letJ_e, letB_e, up2_R25, up2_R26, hg, he, if_neg c10, e1, ↓reduceIte, gid, eid]
  by_cases d : ol + w ≤ a 51
  · rw [if_pos (by rw [iI_le (by omega) (by omega)]; exact d)]
    simp only [if_pos d]
    by_cases m1 : og < G
    · rw [if_pos (by rw [iI_lt (by omega) (by omega)]; exact m1), if_pos (Or.inl m1)]
    · rw [if_neg (by rw [iI_lt (by omega) (by omega)]; exact m1)]
      by_cases m2 : og = G
      · rw [if_pos (by rw [m2])]
        by_cases m3 : ol + w < E
        · rw [if_neg (by rw [iI_le hE (by omega)]; omega), if_pos (Or.inr ⟨m2, m3⟩)]
        · rw [if_pos (by rw [iI_le hE (by omega)]; omega), if_neg (fun q => q.elim m1 (fun q => m3 q.2))]
      · rw [if_neg (by rw [iI_inj (by omega) (by omega)]; exact m2), if_neg (fun q => q.elim m1 (fun q => m2 q.1))]
  · rw [if_neg (by rw [iI_le (by omega) (by omega)]; exact d)]
    simp only [if_neg d]
    by_cases m1 : og + 1 < G
    · rw [if_pos (by rw [iI_lt (by omega) (by omega)]; exact m1), if_pos (Or.inl m1)]
    · rw [if_neg (by rw [iI_lt (by omega) (by omega)]; exact m1)]
      by_cases m2 : og + 1 = G
      · rw [if_pos (by rw [m2])]
        by_cases m3 : w < E
        · rw [if_neg (by rw [iI_le hE (by omega)]; omega), if_pos (Or.inr ⟨m2, m3⟩)]
        · rw [if_pos (by rw [iI_le hE (by omega)]; omega), if_neg (fun q => q.elim m1 (fun q => m3 q.2))]
      · rw [if_neg (by rw [iI_inj (by omega) (by omega)]; exact m2), if_neg (fun q => q.elim m1 (fun q => m2 q.1))]
end
