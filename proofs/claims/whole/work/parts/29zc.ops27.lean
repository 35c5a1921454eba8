section
/-! The reference's packing, all sets; the call wagons. -/
def JT (W : Nat → Int) (l : Int) (n m : Nat) (g e : Nat → Int32) : Prop := ∀ q, q ≤ m → g q = iI (Btb W l n m q / 32768) ∧ e q = iI (Btb W l n m q % 32768)
theorem l_51 {M : MM} {a : Nat → Int} {W : Nat → Int} {n m : Nat} {x : Int32} (hn : n ≤ 12) (hl : 0 ≤ a 51) (hl2 : a 51 ≤ 20000) (hW : ∀ i, i < n → 0 ≤ W i ∧ W i ≤ a 51) (hI : INV W (a 51) n m) (hz : m + 1 < 2 ^ n) (h24 : ∀ i, i < n → M 24 i = iI (W i)) : ∀ (j fu k : Nat) (g e : Nat → Int32), k + j = n → j < fu → JT W (a 51) n m g e → ((m + 1) % 2 ^ k = 0 ∧ BST W (a 51) n m k = 32768 * (n + 1) ∧ g (m + 1) = iI 13) ∨ ((∃ j, j < k ∧ tb (m + 1) j ∧ (m + 1) % 2 ^ j = 0) ∧ 0 ≤ BST W (a 51) n m k ∧ BST W (a 51) n m k ≤ 425983 ∧ g (m + 1) = iI (BST W (a 51) n m k / 32768) ∧ e (m + 1) = iI (BST W (a 51) n m k % 32768)) → ∃ g' e', lp_X11_wagons_51 fu (RS M a g e) x (iI n) (iI ((m + 1 : Nat) : Int)) (iI k) = some (x, iI n, iI ((m + 1 : Nat) : Int), RS M a g' e') ∧ JT W (a 51) n (m + 1) g' e' := by
  have hp12 := p2_le hn
  have e12 : (2 : Nat) ^ 12 = 4096 := rfl
  intro j
  induction j with
  | zero =>
    intro fu k g e hk hf hJ hA
    obtain ⟨f, rfl⟩ : ∃ f, fu = f + 1 := ⟨fu - 1, by omega⟩
    obtain rfl : k = n := by omega
    refine ⟨g, e, ?_, fun q hq => ?_⟩
    · unfold lp_X11_wagons_51
      rw [if_pos (by rw [iI_le (by omega) (by omega)]; omega)]
    · by_cases c : q = m + 1
      · subst c
        rw [Btb_s]
        rcases hA with ⟨a1, a2, a3⟩ | ⟨a1, a2, a3, a4, a5⟩
        · rw [Nat.mod_eq_of_lt hz] at a1; omega
        · exact ⟨a4, a5⟩
      · rw [Btb_o (by omega)]; exact hJ q (by omega)
  | succ j ih =>
    intro fu k g e hk hf hJ hA
    obtain ⟨f, rfl⟩ : ∃ f, fu = f + 1 := ⟨fu - 1, by omega⟩
    have e1 : iI (k : Int) + 1 = iI ((k + 1 : Nat) : Int) := by rw [Z1, iI_add]; congr 1
    have hW1 := hW k (by omega)
    have hbs := BST_s W (a 51) n m k
    by_cases c : tb (m + 1) k
    · rw [if_pos c] at hbs
      have hle := tb_le c
      have hp := Nat.two_pow_pos k
      obtain ⟨i1, i2, i3⟩ := hI (m + 1 - 2 ^ k) (by omega) (by omega)
      have i4 := i3 0 (by omega) (Nat.mod_one _)
      obtain ⟨p1, p2, p3⟩ := pck_b i1 i2 hW1.1 hW1.2 hl2
      obtain ⟨j1, j2⟩ := hJ (m + 1 - 2 ^ k) (by omega)
      obtain ⟨o, ho⟩ : ∃ o, o = Btb W (a 51) n m (m + 1 - 2 ^ k) := ⟨_, rfl⟩
      rw [← ho] at i1 i2 i3 i4 p1 p2 p3 j1 j2 hbs
      obtain ⟨pk, hpk⟩ : ∃ pk, pk = pck o (W k) (a 51) := ⟨_, rfl⟩
      rw [← hpk] at p1 p2 p3 hbs
      have hJ2 : ∀ (y y' : Int32), JT W (a 51) n m (upd g (m + 1) y) (upd e (m + 1) y') := fun y y' q hq => by
        rw [upd_n (by omega), upd_n (by omega)]; exact hJ q hq
      have pb : pk % 32768 = (if o % 32768 + W k ≤ a 51 then o % 32768 + W k else W k) ∧ pk / 32768 = (if o % 32768 + W k ≤ a 51 then o / 32768 else o / 32768 + 1) := ⟨p2, p3⟩
      have pk2 : pk / 32768 ≤ n + 1 := by rw [p3]; split <;> omega
      have better : JT W (a 51) n m (upd g (m + 1) (iI (pk / 32768))) (upd e (m + 1) (iI (pk % 32768))) := hJ2 _ _
      rcases hA with ⟨a1, a2, a3⟩ | ⟨a1, a2, a3, a4, a5⟩
      · have i5 := i3 (k + 1) (by omega) (low_1 a1 c)
        have p4 : pk / 32768 ≤ (n : Int) - k := by rw [p3]; split <;> omega
        have hE := iI_of (e (m + 1))
        rw [l_51_s (G := 13) (og := o / 32768) (ol := o % 32768) (w := W k) (E := (e (m + 1)).toInt) hn (by omega) (by omega) c a3 hE (iI_B _) (by omega) j1 j2 (h24 k (by omega)) (by omega) (by omega) (by omega) (by omega), ← p2, ← p3, if_pos (Or.inl (by omega))]
        refine ih f (k + 1) _ _ (by omega) (by omega) better (Or.inr ⟨⟨k, by omega, c, a1⟩, ?_⟩)
        rw [hbs, a2, if_pos (by omega), upd_s, upd_s]
        exact ⟨p1, by omega, rfl, rfl⟩
      · rw [l_51_s (G := BST W (a 51) n m k / 32768) (og := o / 32768) (ol := o % 32768) (w := W k) (E := BST W (a 51) n m k % 32768) hn (by omega) (by omega) c a4 a5 (by omega) (by omega) j1 j2 (h24 k (by omega)) (by omega) (by omega) (by omega) (by omega), ← p2, ← p3]
        obtain ⟨j0, q1, q2, q3⟩ := a1
        by_cases d : pk < BST W (a 51) n m k
        · rw [if_pos (by omega)]
          refine ih f (k + 1) _ _ (by omega) (by omega) better (Or.inr ⟨⟨j0, by omega, q2, q3⟩, ?_⟩)
          rw [hbs, if_pos d, upd_s, upd_s]
          exact ⟨p1, by omega, rfl, rfl⟩
        · rw [if_neg (by omega)]
          refine ih f (k + 1) _ _ (by omega) (by omega) hJ (Or.inr ⟨⟨j0, by omega, q2, q3⟩, ?_⟩)
          rw [hbs, if_neg d]
          exact ⟨a2, a3, a4, a5⟩
    · rw [if_neg c] at hbs
      have hnb : ¬ ((iI ((m + 1 : Nat) : Int) >>> (iI (k : Int) &&& 31)) &&& 1 : Int32) = 1 := fun q => c ((bt_tb (n := m + 1) (k := k) (by omega) (by omega)).mp q)
      rw [lp_X11_wagons_51]
      rw [if_neg (by rw [iI_le (by omega) (by omega)]; omega), if_neg hnb, e1]
      refine ih f (k + 1) g e (by omega) (by omega) hJ ?_
      rw [hbs]
      rcases hA with ⟨a1, a2, a3⟩ | ⟨⟨j0, q1, q2, q3⟩, a2⟩
      · exact Or.inl ⟨low_0 a1 c, a2, a3⟩
      · exact Or.inr ⟨⟨j0, by omega, q2, q3⟩, a2⟩
theorem l_r33 {M : MM} {a : Nat → Int} {W : Nat → Int} {n : Nat} {x : Int32} (hn : n ≤ 12) (hl : 0 ≤ a 51) (hl2 : a 51 ≤ 20000) (hW : ∀ i, i < n → 0 ≤ W i ∧ W i ≤ a 51) (h24 : ∀ i, i < n → M 24 i = iI (W i)) : ∀ (j fu m : Nat) (g e : Nat → Int32), m + 1 + j = 2 ^ n → j < fu → JT W (a 51) n m g e → ∃ g' e', lp_X11_wagons_33 fu (RS M a g e) x (iI n) (iI ((m + 1 : Nat) : Int)) = some (iI (Btb W (a 51) n (2 ^ n - 1) (2 ^ n - 1) / 32768), RS M a g' e') := by
  have hp12 := p2_le hn
  have e12 : (2 : Nat) ^ 12 = 4096 := rfl
  have hp := Nat.two_pow_pos n
  intro j
  induction j with
  | zero =>
    intro fu m g e hm hf hJ
    obtain ⟨f, rfl⟩ : ∃ f, fu = f + 1 := ⟨fu - 1, by omega⟩
    have em : m = 2 ^ n - 1 := by omega
    have es : iI ((2 ^ n : Nat) : Int) - 1 = iI ((m : Nat) : Int) := by rw [Z1, iI_sub]; congr 1; omega
    have vs : vin (iI (m : Int)) 4096 := vinI (by omega) (by omega)
    have ts : (iI (m : Int)).toNatClampNeg = m := iI_lo (by omega)
    refine ⟨g, e, ?_⟩
    unfold lp_X11_wagons_33
    rw [shl_1 n (by omega), if_pos (by rw [iI_le (by omega) (by omega)]; omega), es, if_pos vs]
    simp only [ts, RS_25]
    rw [(hJ m (Nat.le_refl _)).1, ← em]
  | succ j ih =>
    intro fu m g e hm hf hJ
    obtain ⟨f, rfl⟩ : ∃ f, fu = f + 1 := ⟨fu - 1, by omega⟩
    have hI := INV_all hn hl hl2 hW m (by omega)
    have e1 : iI ((m + 1 : Nat) : Int) + 1 = iI ((m + 1 + 1 : Nat) : Int) := by rw [Z1, iI_add]; congr 1
    have vs : vin (iI ((m + 1 : Nat) : Int)) 4096 := vinI (by omega) (by omega)
    have ts : (iI ((m + 1 : Nat) : Int)).toNatClampNeg = m + 1 := iI_lo (by omega)
    obtain ⟨g1, e1', k1, k2⟩ := l_51 (M := M) (x := x) hn hl hl2 hW hI (by omega) h24 n FU 0 (upd g (m + 1) (iI 13)) e (by omega) (by unfold FU; omega) (fun q hq => by rw [upd_n (by omega)]; exact hJ q hq) (Or.inl ⟨Nat.mod_one _, rfl, upd_s _ _ _⟩)
    obtain ⟨g2, e2, k3⟩ := ih f (m + 1) g1 e1' (by omega) (by omega) k2
    refine ⟨g2, e2, ?_⟩
    unfold lp_X11_wagons_33
    rw [shl_1 n (by omega), if_neg (by rw [iI_le (by omega) (by omega)]; omega), if_pos vs]
    simp only [ts, show (13 : Int32) = iI 13 from rfl, up2_R25, letB_e]
    rw [show (0 : Int32) = iI ((0 : Nat) : Int) from rfl, k1, bnd4_s, e1]
    exact k3
end
