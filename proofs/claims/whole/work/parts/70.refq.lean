/-! the reference: which sets fit -/
def szf (S : Nat) : Nat → Int
  | 0 => 0
  | k + 1 => szf S k + bI (S.testBit k = true)
theorem szf_bd (S k : Nat) : 0 ≤ szf S k ∧ szf S k ≤ (k : Int) := by
  induction k with
  | zero => unfold szf; omega
  | succ k ih =>
    rw [show szf S (k + 1) = szf S k + bI (S.testBit k = true) from rfl]
    rcases bI_01 (S.testBit k = true) with h | h <;> rw [h] <;> omega
theorem sumB_b {f : Nat → Int} {S i : Nat} {z : Int} (hz : z = sumB f S i) : z + bI (S.testBit i = true) * f i = sumB f S (i + 1) := by
  rw [show sumB f S (i + 1) = sumB f S i + (if S.testBit i then f i else 0) from rfl, hz]
  by_cases h : S.testBit i = true
  · rw [bI_t h, if_pos h, Int.one_mul]
  · rw [bI_f h, if_neg h, Int.zero_mul]
def prw (S i : Nat) : Nat := S / 2 ^ (4 * i) &&& 15
def oth (S : Nat) : Nat → Nat
  | 0 => 0
  | i + 1 => oth S i ||| prw S i
def ftP (S : Nat) : Nat → Bool
  | 0 => true
  | i + 1 => ftP S i && decide (szf (prw S i) 16 = 1 ∧ oth S i &&& prw S i = 0)
theorem ftP_t {S i : Nat} (h : ftP S i = true) (h1 : szf (prw S i) 16 = 1) (h2 : oth S i &&& prw S i = 0) : ftP S (i + 1) = true := by
  rw [show ftP S (i + 1) = (ftP S i && decide (szf (prw S i) 16 = 1 ∧ oth S i &&& prw S i = 0)) from rfl, h]
  simp [h1, h2]
theorem ftP_f {S i : Nat} (h1 : ¬ (szf (prw S i) 16 = 1 ∧ oth S i &&& prw S i = 0)) : ∀ n, i < n → ftP S n = false := by
  intro n
  induction n with
  | zero => intro h; omega
  | succ n ih =>
    intro h
    rw [show ftP S (n + 1) = (ftP S n && decide (szf (prw S n) 16 = 1 ∧ oth S n &&& prw S n = 0)) from rfl]
    rcases Nat.lt_or_ge i n with a | a
    · rw [ih a]; rfl
    · have e : i = n := by omega
      subst e
      rw [decide_eq_false h1]; simp
theorem prw_le (S i : Nat) : prw S i ≤ 15 := Nat.and_le_right
theorem oth_le (S i : Nat) : oth S i < 2 ^ 4 := by
  induction i with
  | zero => exact (by decide : 0 < 2 ^ 4)
  | succ i ih => exact Nat.or_lt_two_pow ih (show prw S i < 2 ^ 4 by have := prw_le S i; omega)
theorem ftH_s {bn : Nat → Int} {S i : Nat} : ftH bn S (i + 1) = (ftH bn S i && (!S.testBit i || decide (sdiff (bn i).toNat S = 0))) := rfl
theorem ftH_n {bn : Nat → Int} {S i : Nat} (h : ¬ ftH bn S i = true) : ¬ ftH bn S (i + 1) = true := by
  rw [ftH_s]
  cases hb : ftH bn S i
  · simp
  · exact absurd hb h
theorem bI_imp {P Q : Prop} [Decidable P] [Decidable Q] {z : Int} (hz : z = bI P) (h : P ↔ Q) : z = bI Q := by rw [hz]; exact bI_c h
def tAt (A B : Nat → Int) (p q : Int) : Nat → Int := fun j => A j * q + B j * p
