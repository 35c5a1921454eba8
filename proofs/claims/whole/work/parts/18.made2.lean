def tMF (n : Nat) : Nat → CE := (upT (upT (upT (upT (upT (upT (upT (tMd n) 1 (sE (upd (fun _ => 0) 45 5))) 1 (sE (upd (upd (fun _ => 0) 45 5) 46 20))) 1 (sE (upd (upd (upd (fun _ => 0) 45 5) 46 20) 47 180))) 1 (sE (upd (upd (upd (upd (fun _ => 0) 45 5) 46 20) 47 180) 48 260))) 1 (sE (upd (upd (upd (upd (upd (fun _ => 0) 45 5) 46 20) 47 180) 48 260) 49 50))) 1 (sE (upd (upd (upd (upd (upd (upd (fun _ => 0) 45 5) 46 20) 47 180) 48 260) 49 50) 50 6))) 1 (sE (upd (upd (upd (upd (upd (upd (upd (fun _ => 0) 45 5) 46 20) 47 180) 48 260) 49 50) 50 6) 51 2000)))
def fin : CT := fun q => if q < 1697 then tBF 0 q else tMF 1697 (q - 1697)
set_option maxRecDepth 1000000 in
theorem fin_ok : (List.range 1709).all (fun q => sameC (fin q) (tmC q)) = true := by decide +kernel
theorem ctor_pure : ∃ ct1 ct2 : CT, f_X10_init 1 (upC ct0 0 blankBF) 0 = some (1697, ct1) ∧ f_X11_init 1698 (upC ct1 1697 blankMd) 1697 = some (1709, ct2) ∧ ∀ q, q < 1709 → sameC (ct2 q) (tmC q) = true := by
  refine ⟨blk ct0 0 1697 (tBF 0), blk (blk ct0 0 1697 (tBF 0)) 1697 12 (tMF 1697), q_X10 0 ct0, q_X11 1697 _, fun q hq => ?_⟩
  have h := List.all_eq_true.mp fin_ok q (List.mem_range.mpr hq)
  have e : blk (blk ct0 0 1697 (tBF 0)) 1697 12 (tMF 1697) q = fin q := by
    unfold fin
    by_cases h1 : q < 1697
    · rw [if_pos h1, blk_lo h1, blk_in (Nat.zero_le _) (by omega), Nat.sub_zero]
    · rw [if_neg h1, blk_in (by omega) (by omega)]
  rw [e]
  exact h
