section
/-! The call wagons: the reference takes up the bells. -/
def tbR (a : Nat → Int) (x : Int32) (nb : Nat) : Int32 := if x < 0 then -1 else if (x >>> (iI ((cn (hereP a) nb : Nat) : Int) &&& 31) : Int32) = 0 then (if wlt a x nb = 0 then -2 else iI ((wsz a x nb : Nat) : Int)) else -1
/-! The pure packing. -/
def pck (o w l : Int) : Int := if o % 32768 + w ≤ l then o + w else o - o % 32768 + 32768 + w
def bst (B : Nat → Int) (W : Nat → Int) (l : Int) (n z : Nat) : Nat → Int
  | 0 => 32768 * (n + 1)
  | k + 1 => if tb z k then (if pck (B (z - 2 ^ k)) (W k) l < bst B W l n z k then pck (B (z - 2 ^ k)) (W k) l else bst B W l n z k) else bst B W l n z k
def Btb (W : Nat → Int) (l : Int) (n : Nat) : Nat → Nat → Int
  | 0 => uI (fun _ => 0) 0 l
  | m + 1 => uI (Btb W l n m) (m + 1) (bst (Btb W l n m) W l n (m + 1) n)
end
