def fin : CT := fun q => tBF 0 q
set_option maxRecDepth 1000000 in
theorem fin_ok : (List.range 1697).all (fun q => sameC (fin q) (tmC q)) = true := by decide +kernel
theorem ctor_pure : ∃ ct1 : CT, f_X10_init 1 (upC ct0 0 blankBF) 0 = some (1697, ct1) ∧ ∀ q, q < 1697 → sameC (ct1 q) (tmC q) = true := by
  refine ⟨blk ct0 0 1697 (tBF 0), q_X10 0 ct0, fun q hq => ?_⟩
  have h := List.all_eq_true.mp fin_ok q (List.mem_range.mpr hq)
  rw [blk_in (Nat.zero_le _) (by omega), Nat.sub_zero]
  exact h
