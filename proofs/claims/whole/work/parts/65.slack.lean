def inB (bt : Nat → Int) (pt j : Nat) : Int := bI ((bt j).toNat.testBit pt = true)
theorem inB_rng (bt : Nat → Int) (pt j : Nat) : -2147483648 ≤ inB bt pt j ∧ inB bt pt j < 2147483648 := bI_rng
def qSlack (n : Nat) (bt a b : Nat → Int) (sg : Int) (pt : Nat) (t mo : Int) : Int := if inB bt pt (best (cst sg a b t 1) n) = bI (mo = bI (sg = 1)) then least (fun j => inB bt pt j ≠ inB bt pt (best (cst sg a b t 1) n)) (fun j => cst sg a b t 1 j - cst sg a b t 1 (best (cst sg a b t 1) n)) n else -1
def cnw (Q : Nat → Prop) [DecidablePred Q] : Nat → Int
  | 0 => 0
  | k + 1 => if Q k then cnw Q k + 1 else cnw Q k
theorem cnw_in {Q : Nat → Prop} [DecidablePred Q] {i : Nat} {z : Int} (hz : z = cnw Q i) (h : Q i) : z + 1 = cnw Q (i + 1) := by
  rw [show cnw Q (i + 1) = if Q i then cnw Q i + 1 else cnw Q i from rfl, if_pos h, hz]
theorem cnw_out {Q : Nat → Prop} [DecidablePred Q] {i : Nat} {z : Int} (hz : z = cnw Q i) (h : ¬ Q i) : z = cnw Q (i + 1) := by
  rw [show cnw Q (i + 1) = if Q i then cnw Q i + 1 else cnw Q i from rfl, if_neg h, hz]
/-- a plan's sum at an end is the best there -/
def tch (a b fp fA fB : Nat → Int) (c u i : Nat) : Prop := a u * fB i + b u * fA i = bsum a b fp fA fB c i
def nowh (a b fp fA fB : Nat → Int) (c : Nat) (u : Nat) : Prop := ∀ i : Nat, i < c + 1 → ¬ (a u * fB i + b u * fA i = bsum a b fp fA fB c i)
def nwc (a b fp fA fB : Nat → Int) (c n : Nat) : Int := cnw (fun u => ∀ i : Nat, i < c + 1 → ¬ (a u * fB i + b u * fA i = bsum a b fp fA fB c i)) n
