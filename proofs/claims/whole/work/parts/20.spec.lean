/-! the state, as whole numbers: rows of a table; mI: some of its rows interleaved in one array -/
def up2 (σ : Nat → Nat → Int) (r : Nat) (f : Nat → Int) : Nat → Nat → Int := fun r' => if r' = r then f else σ r'
def mI (r w : Nat) (σ : Nat → Nat → Int) : Nat → Int := fun j => σ (r + j % w) (j / w)
theorem mI_at {r w d i : Nat} {σ : Nat → Nat → Int} (h : d < w) : mI r w σ (w * i + d) = σ (r + d) i := by
  have h0 : 0 < w := by omega
  show σ (r + (w * i + d) % w) ((w * i + d) / w) = σ (r + d) i
  rw [Nat.mul_add_mod, Nat.mod_eq_of_lt h, Nat.mul_add_div h0, Nat.div_eq_of_lt h, Nat.add_zero]
theorem mI_at0 {r w i : Nat} {σ : Nat → Nat → Int} (h : 0 < w) : mI r w σ (w * i) = σ r i := mI_at (d := 0) h
theorem mI_up {r w d i : Nat} {σ : Nat → Nat → Int} {z : Int} (h : d < w) : va_up (mI r w σ) (w * i + d) z = mI r w (up2 σ (r + d) (va_up (σ (r + d)) i z)) := by
  have h0 : 0 < w := by omega
  funext j
  by_cases hj : j = w * i + d
  · subst hj
    rw [mI_at h]
    simp [va_up, up2]
  · have e1 : va_up (mI r w σ) (w * i + d) z j = mI r w σ j := by simp [va_up, hj]
    rw [e1]
    show σ (r + j % w) (j / w) = up2 σ (r + d) (va_up (σ (r + d)) i z) (r + j % w) (j / w)
    unfold up2
    by_cases hd : r + j % w = r + d
    · rw [if_pos hd, hd]
      have : ¬ j / w = i := by
        intro hi
        apply hj
        have := Nat.div_add_mod j w
        rw [hi] at this
        omega
      simp [va_up, this]
    · rw [if_neg hd]
theorem mI_other {r w q : Nat} {σ : Nat → Nat → Int} {f : Nat → Int} (hw : 0 < w) (h : q < r ∨ r + w ≤ q) : mI r w (up2 σ q f) = mI r w σ := by
  funext j
  show up2 σ q f (r + j % w) (j / w) = σ (r + j % w) (j / w)
  have := Nat.mod_lt j hw
  unfold up2
  rw [if_neg (by omega)]
/-! the digest's chain -/
def mx (h v : Int) : Int := 31 * h + v
def chain (f : Nat → Int) : Nat → Int → Int
  | 0, h => h
  | n + 1, h => mx (chain f n h) (f n)
def mixL (lf lt la lb : Nat → Int) : Nat → Int → Int
  | 0, h => h
  | n + 1, h => mx (mx (mx (mx (mixL lf lt la lb n h) (lf n)) (lt n)) (la n)) (lb n)
def mixP (la lb : Nat → Int) : Nat → Int → Int
  | 0, h => h
  | n + 1, h => mx (mx (mixP la lb n h) (la n)) (lb n)
def mix3 (w la lb : Nat → Int) : Nat → Int → Int
  | 0, h => h
  | n + 1, h => mx (mx (mx (mix3 w la lb n h) (w n)) (la n)) (lb n)
theorem chain_4 (σ : Nat → Nat → Int) (r n : Nat) (h : Int) : chain (mI r 4 σ) (4 * n) h = mixL (σ r) (σ (r + 1)) (σ (r + 2)) (σ (r + 3)) n h := by
  induction n with
  | zero => rfl
  | succ n ih =>
    rw [show 4 * (n + 1) = 4 * n + 1 + 1 + 1 + 1 by omega]
    simp only [chain, mixL, ih]
    rw [mI_at0 (by omega), mI_at (d := 1) (by omega), show 4 * n + 1 + 1 = 4 * n + 2 by omega, mI_at (d := 2) (by omega), show 4 * n + 2 + 1 = 4 * n + 3 by omega, mI_at (d := 3) (by omega)]
theorem chain_2 (σ : Nat → Nat → Int) (r n : Nat) (h : Int) : chain (mI r 2 σ) (2 * n) h = mixP (σ r) (σ (r + 1)) n h := by
  induction n with
  | zero => rfl
  | succ n ih =>
    rw [show 2 * (n + 1) = 2 * n + 1 + 1 by omega]
    simp only [chain, mixP, ih]
    rw [mI_at0 (by omega), mI_at (d := 1) (by omega)]
theorem chain_3 (σ : Nat → Nat → Int) (r n : Nat) (h : Int) : chain (mI r 3 σ) (3 * n) h = mix3 (σ r) (σ (r + 1)) (σ (r + 2)) n h := by
  induction n with
  | zero => rfl
  | succ n ih =>
    rw [show 3 * (n + 1) = 3 * n + 1 + 1 + 1 by omega]
    simp only [chain, mix3, ih]
    rw [mI_at0 (by omega), mI_at (d := 1) (by omega), show 3 * n + 1 + 1 = 3 * n + 2 by omega, mI_at (d := 2) (by omega)]
/-! bits: words that hold small natural numbers -/
theorem iI_nat (n : Nat) : iI (n : Int) = nI n := (iI_ofNat n).symm
theorem bt_shl {n : Nat} (h : n < 31) : iI 1 <<< (iI (n : Int) &&& 31) = iI ((2 ^ n : Nat) : Int) := by
  rw [iI_nat, iI_nat, show iI 1 = nI 1 from rfl]
  have hs : ((nI n &&& 31).toBitVec.smod 32).toNat = n := by
    have : ∀ n, n < 32 → ((nI n &&& 31).toBitVec.smod 32).toNat = n := by decide +kernel
    exact this n (by omega)
  rw [pk_shlN (nI n &&& 31) n hs (by
    have : (2 : Nat) ^ n ≤ 2 ^ 30 := Nat.pow_le_pow_right (by decide) (by omega)
    omega), Nat.one_mul]
theorem bt_shr {a n : Nat} (ha : a < 2147483648) (h : n < 32) : iI (a : Int) >>> (iI (n : Int) &&& 31) = iI ((a / 2 ^ n : Nat) : Int) := by
  rw [iI_nat, iI_nat, iI_nat]
  have hs : ((nI n &&& 31).toBitVec.smod 32).toNat = n := by
    have : ∀ n, n < 32 → ((nI n &&& 31).toBitVec.smod 32).toNat = n := by decide +kernel
    exact this n h
  exact pk_shrN (by omega) (nI n &&& 31) n hs
theorem bt_tb (n : Nat) : (nI n).toBitVec = BitVec.ofNat 32 n := rfl
theorem bt_inj {a b : Int32} (h : a.toBitVec = b.toBitVec) : a = b := Int32.toBitVec_inj.mp h
theorem bt_and (a b : Nat) : iI (a : Int) &&& iI (b : Int) = iI ((a &&& b : Nat) : Int) := by
  rw [iI_nat, iI_nat, iI_nat]
  apply bt_inj
  rw [Int32.toBitVec_and, bt_tb, bt_tb, bt_tb, BitVec.ofNat_and]
theorem bt_or (a b : Nat) : iI (a : Int) ||| iI (b : Int) = iI ((a ||| b : Nat) : Int) := by
  rw [iI_nat, iI_nat, iI_nat]
  apply bt_inj
  rw [Int32.toBitVec_or, bt_tb, bt_tb, bt_tb, BitVec.ofNat_or]
theorem bt_xor (a b : Nat) : iI (a : Int) ^^^ iI (b : Int) = iI ((a ^^^ b : Nat) : Int) := by
  rw [iI_nat, iI_nat, iI_nat]
  apply bt_inj
  rw [Int32.toBitVec_xor, bt_tb, bt_tb, bt_tb, BitVec.ofNat_xor]
theorem bt_1 {a n : Nat} : ((a / 2 ^ n) &&& 1) = if a.testBit n then 1 else 0 := by
  rw [Nat.testBit_eq_decide_div_mod_eq, Nat.and_one_is_mod]
  rcases Nat.mod_two_eq_zero_or_one (a / 2 ^ n) with h | h <;> simp [h]
/-- a without b, both small: the and with the other's complement -/
def sdiff (a b : Nat) : Nat := a ^^^ (a &&& b)
theorem bt_andn (a b : Nat) : iI (a : Int) &&& (iI (b : Int) ^^^ iI (-1)) = iI ((sdiff a b : Nat) : Int) := by
  unfold sdiff
  rw [← bt_xor, ← bt_and, iI_nat, iI_nat]
  apply bt_inj
  rw [Int32.toBitVec_and, Int32.toBitVec_xor, Int32.toBitVec_xor, Int32.toBitVec_and, show (iI (-1)).toBitVec = BitVec.allOnes 32 from by decide]
  ext i hi
  simp only [BitVec.getElem_and, BitVec.getElem_xor, BitVec.getElem_allOnes]
  cases (nI a).toBitVec[i] <;> cases (nI b).toBitVec[i] <;> rfl
theorem sdiff_tb (a b i : Nat) : (sdiff a b).testBit i = (a.testBit i && !b.testBit i) := by
  unfold sdiff
  rw [Nat.testBit_xor, Nat.testBit_and]
  cases a.testBit i <;> cases b.testBit i <;> rfl
theorem sdiff_0 (a b : Nat) : sdiff a b = 0 ↔ ∀ i, a.testBit i = true → b.testBit i = true := by
  constructor
  · intro h i ha
    have := sdiff_tb a b i
    rw [h, Nat.zero_testBit, ha] at this
    simpa using this
  · intro h
    apply Nat.eq_of_testBit_eq
    intro i
    rw [sdiff_tb, Nat.zero_testBit]
    cases ha : a.testBit i
    · rfl
    · rw [h i ha]; rfl
theorem sdiff_le (a b : Nat) : sdiff a b ≤ a := by
  apply Nat.le_of_testBit
  intro i
  rw [sdiff_tb]
  cases a.testBit i <;> cases b.testBit i <;> simp
theorem bt_bit {a n : Nat} : iI ((a / 2 ^ n : Nat) : Int) &&& iI 1 = iI (bI (a.testBit n = true)) := by
  rw [show iI 1 = iI ((1 : Nat) : Int) from rfl, bt_and, bt_1]
  by_cases h : a.testBit n = true
  · rw [bI_t h, if_pos h]; rfl
  · rw [bI_f h, if_neg h]; rfl
