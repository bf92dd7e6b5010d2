theorem unt_sh {a b p : Nat} (ha : a ≤ 7) (hb : b ≤ 7) (hp : p ≤ 5) : (a ^^^ b) * 2 ^ (3 * p) < 2147483648 := by
  have hx : a ^^^ b < 2 ^ 3 := Nat.xor_lt_two_pow (show a < 2 ^ 3 by omega) (show b < 2 ^ 3 by omega)
  have h2 : 2 ^ (3 * p) ≤ 2 ^ 15 := Nat.pow_le_pow_right (by decide) (by omega)
  calc (a ^^^ b) * 2 ^ (3 * p) ≤ 7 * 2 ^ 15 := Nat.mul_le_mul (by omega) h2
    _ < 2147483648 := by decide
theorem unt_in {g a b p u : Nat} (hu : u = unt g a b p) (h : grp g p = b) : u ^^^ ((a ^^^ b) * 2 ^ (3 * p)) = unt g a b (p + 1) := by
  rw [show unt g a b (p + 1) = if grp g p = b then unt g a b p ^^^ ((a ^^^ b) * 2 ^ (3 * p)) else unt g a b p from rfl, if_pos h, hu]
theorem unt_out {g a b p u : Nat} (hu : u = unt g a b p) (h : ¬ grp g p = b) : u = unt g a b (p + 1) := by
  rw [show unt g a b (p + 1) = if grp g p = b then unt g a b p ^^^ ((a ^^^ b) * 2 ^ (3 * p)) else unt g a b p from rfl, if_neg h, hu]
def mtF (d taken pairing : Nat) : Nat → List Nat := fun j => if taken.testBit j = true then [] else mt (taken ||| 2 ^ j) (pairing ||| 2 ^ (4 * d + j)) d
theorem mt_F (d taken pairing : Nat) : mt taken pairing (d + 1) = fm (mtF d taken pairing) 4 := rfl
theorem mt_0 (taken pairing : Nat) : mt taken pairing 0 = [pairing] := rfl
