section
/-! The calls fault, frame. -/
theorem l_fill {M : MM} (x : Int32) : ∀ (j fu z : Nat) (w : Nat → Int32), z + j = 100 → j < fu → lp_J7_fill_53178_5 fu (sg M 13 w) x (iI z) 100 = some ((), sg M 13 (fun q => if z ≤ q ∧ q < 100 then x else w q)) := by
  intro j
  induction j with
  | zero =>
    intro fu z w hz hf
    obtain ⟨f, rfl⟩ : ∃ f, fu = f + 1 := ⟨fu - 1, by omega⟩
    obtain rfl : z = 100 := by omega
    unfold lp_J7_fill_53178_5
    rw [if_pos (by decide)]
    refine congrArg (fun w' => some ((), sg M 13 w')) ?_
    funext q
    rw [if_neg (by omega)]
  | succ j ih =>
    intro fu z w hz hf
    obtain ⟨f, rfl⟩ : ∃ f, fu = f + 1 := ⟨fu - 1, by omega⟩
    have e1 : iI (z : Int) + 1 = iI ((z + 1 : Nat) : Int) := by rw [Z1, iI_add]; congr 1
    have tz : (iI (z : Int)).toNatClampNeg = z := iI_lo (by omega)
    unfold lp_J7_fill_53178_5
    rw [if_neg (by rw [Z100, iI_le (by omega) (by omega)]; omega), if_pos (vinI (by omega) (by omega))]
    simp only [tz, up2_sg, letB_e, e1]
    rw [ih f (z + 1) _ (by omega) (by omega)]
    refine congrArg (fun w' => some ((), sg M 13 w')) ?_
    funext q
    by_cases h1 : z + 1 ≤ q ∧ q < 100
    · rw [if_pos h1, if_pos (by omega)]
    · rw [if_neg h1]
      by_cases h2 : q = z
      · rw [if_pos (by omega), h2, upd_s]
      · rw [if_neg (by omega), upd_n h2]
theorem c_begin (M : MM) (a : Nat → Int) : ∃ M1, f_X1_begin M = some ((), M1) ∧ CFr M M1 ∧ fcI M1 a 0 0 0 0 0 0 (fun _ => 0) (fun _ => 0) (fun _ => 0) (fun _ => 0) := by
  obtain ⟨M2, hM2⟩ : ∃ M2, M2 = up2 (up2 M 10 0 0) 10 6 0 := ⟨_, rfl⟩
  have lf := l_fill (M := M2) 0 100 FU 0 (M2 13) (by omega) (by unfold FU; omega)
  rw [sg_id] at lf
  obtain ⟨M4, hM4⟩ : ∃ M4, M4 = sg M2 13 (fun q => if 0 ≤ q ∧ q < 100 then 0 else M2 13 q) := ⟨_, rfl⟩
  rw [← hM4] at lf
  have lf' : f_J7_fill_53178 M2 0 = some ((), M4) := lf
  refine ⟨up2 (up2 (up2 (up2 M4 10 8 0) 10 9 0) 10 10 0) 10 11 0, ?_, ?_, ⟨⟨?_, ?_, ?_, ?_, ?_, ?_⟩, fun i hi => absurd hi (Nat.not_lt_zero i), fun i hi => absurd hi (Nat.not_lt_zero i), fun he => absurd rfl he, fun b hb => ?_⟩⟩
  · unfold f_X1_begin
    rw [letB_e, letB_e, ← hM2, lf', bnd2_s, letB_e, letB_e, letB_e, letB_e]
  · refine CFr.up (CFr.up (CFr.up (CFr.up ?_ _ (by omega)) _ (by omega)) _ (by omega)) _ (by omega)
    intro G q1 q2 q3 q4
    rw [hM4, sg_n q3, hM2, up2_gn q1, up2_gn q1]
  · rw [up2_in _ (by omega), up2_in _ (by omega), up2_in _ (by omega), up2_in _ (by omega), hM4, sg_n (by omega), hM2, up2_in _ (by omega), up2_eq]; rfl
  · rw [up2_in _ (by omega), up2_in _ (by omega), up2_in _ (by omega), up2_in _ (by omega), hM4, sg_n (by omega), hM2, up2_eq]; rfl
  · rw [up2_in _ (by omega), up2_in _ (by omega), up2_in _ (by omega), up2_eq]; rfl
  · rw [up2_in _ (by omega), up2_in _ (by omega), up2_eq]; rfl
  · rw [up2_in _ (by omega), up2_eq]; rfl
  · rw [up2_eq]; rfl
  · rw [up2_gn (by omega), up2_gn (by omega), up2_gn (by omega), up2_gn (by omega), hM4, sg_s, if_pos (by omega)]
    exact ⟨fun _ k hk => absurd hk (Nat.not_lt_zero k), fun _ => rfl⟩
theorem g_begin (a : Nat → Int) : fgI a 0 0 0 0 0 0 0 (fun _ => 0) (fun _ => 0) (fun _ => 0) (fun _ => 0) := by
  refine ⟨⟨by omega, by omega, by omega, by omega, by omega, by omega, by omega, by rw [if_pos rfl]; omega⟩, fun k hk => absurd hk (Nat.not_lt_zero k), Or.inr ⟨rfl, rfl⟩, ⟨rfl, fun _ => rfl⟩, fun i hi => absurd hi (Nat.not_lt_zero i), fun i hi => Nat.zero_le _, fun q => absurd q (by omega), fun q => absurd q (by omega), fun q => absurd q (by omega)⟩
theorem r_begin (N : MM) (a : Nat → Int) : ∃ N1, f_X11_reads N = lp_X11_reads_37 FU N1 1 ∧ RFr N N1 ∧ frI N1 a 0 0 0 0 0 0 0 (fun _ => 0) (fun _ => 0) (fun _ => 0) (fun _ => 0) := by
  refine ⟨up2 (up2 (up2 (up2 (up2 (up2 (up2 N 20 18 0) 20 19 0) 20 11 0) 20 12 0) 20 13 0) 20 14 0) 20 15 0, ?_, ?_, ⟨⟨?_, ?_, ?_, ?_, ?_, ?_⟩, fun k hk => absurd hk (Nat.not_lt_zero k), fun i hi => absurd hi (Nat.not_lt_zero i), fun he => absurd rfl he⟩⟩
  · rfl
  · exact (((((((RFr.refl N).up _ (by omega)).up _ (by omega)).up _ (by omega)).up _ (by omega)).up _ (by omega)).up _ (by omega)).up _ (by omega)
  · rw [up2_in _ (by omega), up2_in _ (by omega), up2_in _ (by omega), up2_in _ (by omega), up2_in _ (by omega), up2_in _ (by omega), up2_eq]; rfl
  · rw [up2_in _ (by omega), up2_in _ (by omega), up2_in _ (by omega), up2_in _ (by omega), up2_eq]; rfl
  · rw [up2_in _ (by omega), up2_in _ (by omega), up2_in _ (by omega), up2_eq]; rfl
  · rw [up2_in _ (by omega), up2_in _ (by omega), up2_eq]; rfl
  · rw [up2_in _ (by omega), up2_eq]; rfl
  · rw [up2_eq]; rfl
theorem both_read {k : Int} {M : MM} {a : Nat → Int} {n : Nat} {H : Nat → Nat → Int} {L : Nat} {t : Nat → Int} (vb : VB k a n H L t) (vc : VC M a n H L t) : ∃ M1, f_X1_read M 0 (iI L) = some ((), M1) ∧ CFr M M1 ∧ ∀ N, VR N a n H L t → ∃ rr N1, f_X11_reads N = some (rr, N1) ∧ RFr N N1 ∧ fFin M1 N1 a L rr := by
  have hL := vb.2.2.2.1
  obtain ⟨M0, k0, f0, hc⟩ := c_begin M a
  obtain ⟨M1, k1, f1, cont⟩ := l_read vb L 0 (by omega) M0 0 0 0 0 0 0 _ _ _ _ FU (vc.cfr f0) hc (g_begin a) (by unfold FU; omega)
  refine ⟨M1, ?_, f0.trans f1, fun N vr => ?_⟩
  · unfold f_X1_read
    rw [k0, bnd2_s]
    exact k1
  · obtain ⟨N0, q0, q1, q2⟩ := r_begin N a
    obtain ⟨rr, N1, e1, e2, e3⟩ := cont N0 FU FU (vr.rfr q1) q2 (by unfold FU; omega) (by unfold FU; omega)
    refine ⟨rr, N1, ?_, q1.trans e2, e3⟩
    rw [q0]
    unfold fREF at e1
    rw [if_pos rfl] at e1
    exact e1
theorem RFr.FR {N N1 : MM} (h : RFr N N1) : FR N N1 := fun G g => h.1 G (by omega) (by omega) (by omega) (by omega) (by omega)
theorem CFr.FC {M M1 : MM} (h : CFr M M1) : FC M M1 := fun G g1 g2 => h G (by omega) (by omega) (by omega) (by omega)
theorem o_fault {k : Int} (x : Int32) : CALL k (fun M => f_X10_fault M x) (fun M => f_X11_fault M x) := by
  intro M a n H L t vc vr vb
  obtain ⟨X, hX, rfl⟩ := ofI x
  have hL := vb.2.2.2.1
  by_cases hx : 0 ≤ X ∧ X ≤ 1
  · obtain ⟨M1, k1, f1, cont⟩ := both_read vb vc
    have vc1 := vc.cfr f1
    have vr1 := vr.congr f1.FC
    obtain ⟨rr, N1, q1, q2, q3⟩ := cont M1 vr1
    have vcN := vc1.congr q2.FR
    have vrN := vr1.rfr q2
    have hc1 : ∀ y, f_X10_fault M (iI X) = y ↔ (if (M1 10 2 : Int32) = 0 then some (-4, M1) else (if (iI X : Int32) = 0 then some (M1 10 1, M1) else some (M1 10 2, M1))) = y := by
      intro y
      unfold f_X10_fault
      rw [e_inL 0 1 hX Z0 Z1 (by omega) (by omega), bnd2_s, ify hx, vc.2.2.1, k1, bnd2_s]
    have hr1 : f_X11_fault M1 (iI X) = (if (rr : Int32) = 0 then (if (iI X : Int32) = 0 then some (N1 20 18, N1) else some (N1 20 19, N1)) else some (-4, N1)) := by
      unfold f_X11_fault
      rw [r_inL 0 1 hX Z0 Z1 (by omega) (by omega), bnd2_s, ify hx, q1, bnd2_s]
    rcases q3 with ⟨s1, s2, s3, s4⟩ | ⟨s1, s2, -⟩
    · by_cases c : iI X = 0
      · exact ⟨M1 10 1, M1, N1, a, n, H, L, t, by show f_X10_fault M (iI X) = _; rw [hc1, if_neg s2, if_pos c], by show f_X11_fault M1 (iI X) = _; rw [hr1, if_pos s1, if_pos c, s3], vcN, vrN, vb.succ⟩
      · exact ⟨M1 10 2, M1, N1, a, n, H, L, t, by show f_X10_fault M (iI X) = _; rw [hc1, if_neg s2, if_neg c], by show f_X11_fault M1 (iI X) = _; rw [hr1, if_pos s1, if_neg c, s4], vcN, vrN, vb.succ⟩
    · exact ⟨-4, M1, N1, a, n, H, L, t, by show f_X10_fault M (iI X) = _; rw [hc1, if_pos s2], by show f_X11_fault M1 (iI X) = _; rw [hr1, if_neg (by rw [s1]; decide)], vcN, vrN, vb.succ⟩
  · refine ⟨-1, M, M, a, n, H, L, t, ?_, ?_, vc, vr, vb.succ⟩
    · show f_X10_fault M (iI X) = _
      unfold f_X10_fault
      rw [e_inL 0 1 hX Z0 Z1 (by omega) (by omega), bnd2_s, ifn hx]
    · show f_X11_fault M (iI X) = _
      unfold f_X11_fault
      rw [r_inL 0 1 hX Z0 Z1 (by omega) (by omega), bnd2_s, ifn hx]
/-! what has to be added -/
def mxv (f : Nat → Int) : Nat → Int
  | 0 => 0
  | z + 1 => if f z ≤ mxv f z then mxv f z else f z
theorem mxv_le {f : Nat → Int} {B : Int} (hB : 0 ≤ B) : ∀ n, (mxv f n ≤ B ↔ ∀ k, k < n → f k ≤ B) := by
  intro n
  induction n with
  | zero => exact ⟨fun _ k hk => absurd hk (Nat.not_lt_zero k), fun _ => hB⟩
  | succ n ih =>
    constructor
    · intro h k hk
      unfold mxv at h
      by_cases c : f n ≤ mxv f n
      · rw [if_pos c] at h
        by_cases e : k = n
        · rw [e]; omega
        · exact ih.mp h k (by omega)
      · rw [if_neg c] at h
        by_cases e : k = n
        · rw [e]; exact h
        · exact ih.mp (by omega) k (by omega)
    · intro h
      unfold mxv
      split
      · exact ih.mpr (fun k hk => h k (by omega))
      · exact h n (by omega)
theorem mxv_nn {f : Nat → Int} : ∀ n, 0 ≤ mxv f n := by
  intro n
  induction n with
  | zero => exact Int.le_refl _
  | succ n ih => unfold mxv; split <;> omega
theorem shl_w {w : Int} {d : Nat} (h0 : 0 ≤ w) (h1 : w ≤ 10000) (hd : d < 6) : iI w <<< (iI (d : Int) &&& 31) = iI (w * 2 ^ d) := by
  obtain ⟨W, rfl⟩ : ∃ W : Nat, w = W := ⟨w.toNat, by omega⟩
  have h7 := p2_7 d (by omega)
  have hle : W * 2 ^ d ≤ 10000 * 2 ^ 6 := Nat.mul_le_mul (by omega) (p2_le (by omega))
  have hlt : W * 2 ^ d < 2 ^ 32 := by
    have e1 : (2 : Nat) ^ 32 = 4294967296 := rfl
    have e2 : (2 : Nat) ^ 6 = 64 := rfl
    omega
  rw [iI_nI, pk_shlN (iI (d : Int) &&& 31) d (sm_k d (by omega)) hlt, ← iI_nI, Int.natCast_mul, h7.2]
end
