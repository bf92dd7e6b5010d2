/-! the fraction: lowest terms by Euclid's way -/
theorem lI_div {x y : Int} (hx : -9223372036854775808 ≤ x ∧ x < 9223372036854775808) (hy : 0 < y ∧ y < 9223372036854775808) : lI x / lI y = lI (x.tdiv y) := by
  have h := Int64.ofInt_tdiv (a := x) (b := y) (show (-9223372036854775808 : Int) ≤ x from hx.1) (show x ≤ (9223372036854775807 : Int) by omega) (show (-9223372036854775808 : Int) ≤ y by omega) (show y ≤ (9223372036854775807 : Int) by omega)
  exact h.symm
theorem lI_rem {x y : Int} (hx : 0 ≤ x ∧ x < 9223372036854775808) (hy : 0 < y ∧ y < 9223372036854775808) : lI x - lI x / lI y * lI y = lI (x % y) := by
  rw [lI_div (by omega) hy, Int.tdiv_eq_ediv_of_nonneg hx.1, lI_mul, lI_sub, Int.emod_def, Int.mul_comm y]
theorem lI_ne {y : Int} (hy : 0 < y ∧ y < 9223372036854775808) : ¬ lI y = 0 := by
  rw [show (0 : Int64) = lI 0 from rfl, lI_eq (by omega) (by omega)]; omega
def gI (x y : Int) : Int := ((Nat.gcd x.natAbs y.natAbs : Nat) : Int)
theorem gI_pos {x y : Int} (h : 0 < y) : 0 < gI x y := by
  unfold gI
  have : 0 < Nat.gcd x.natAbs y.natAbs := Nat.gcd_pos_of_pos_right _ (by omega)
  omega
theorem gI_le {x y : Int} (h : 0 < y) : gI x y ≤ y := by
  unfold gI
  have := Nat.gcd_le_right (m := x.natAbs) (n := y.natAbs) (by omega)
  omega
def rdA (x y : Int) : Int := x.tdiv (gI x y)
def rdB (x y : Int) : Int := y.tdiv (gI x y)
/-- Euclid's step -/
theorem gcd_step {b s : Int} {G : Nat} (hb : 0 ≤ b) (hs : 0 < s) (h : Nat.gcd b.toNat s.toNat = G) : Nat.gcd s.toNat (b % s).toNat = G := by
  rw [Int.toNat_emod hb (Int.le_of_lt hs), Nat.gcd_comm, ← Nat.gcd_rec, Nat.gcd_comm]
  exact h
theorem gcd_end {b s : Int} {G : Nat} (hb : 0 ≤ b) (hs : s = 0) (h : Nat.gcd b.toNat s.toNat = G) : b = (G : Int) := by
  subst hs
  rw [show (0 : Int).toNat = 0 from rfl, Nat.gcd_zero_right] at h
  omega
theorem gm_step {b s i : Nat} (hs : 0 < s) (hsm : s ≤ 1099511627776) (hm : i = 0 ∨ (s < b ∧ b * s * 2 ^ (i - 1) < 2 ^ 80)) : b % s < s ∧ s * (b % s) * 2 ^ (i + 1 - 1) < 2 ^ 80 := by
  have hr : b % s < s := Nat.mod_lt b hs
  refine ⟨hr, ?_⟩
  rcases hm with rfl | ⟨h1, h2⟩
  · have h3 : s * (b % s) < s * s := Nat.mul_lt_mul_of_pos_left hr hs
    have h4 : s * s ≤ 1099511627776 * 1099511627776 := Nat.mul_le_mul hsm hsm
    simp only [Nat.zero_add, Nat.sub_self, Nat.pow_zero, Nat.mul_one]
    omega
  · have hd : s ≤ s * (b / s) := Nat.le_mul_of_pos_right s (Nat.div_pos (Nat.le_of_lt h1) hs)
    have hb := Nat.div_add_mod b s
    have h5 : 2 * (b % s) ≤ b := by omega
    rcases Nat.eq_zero_or_pos i with e | e
    · subst e
      have h3 : s * (b % s) < s * s := Nat.mul_lt_mul_of_pos_left hr hs
      have h4 : s * s ≤ 1099511627776 * 1099511627776 := Nat.mul_le_mul hsm hsm
      simp only [Nat.zero_add, Nat.sub_self, Nat.pow_zero, Nat.mul_one]
      omega
    · have h6 : s * (b % s) * 2 ^ (i + 1 - 1) = s * (2 * (b % s)) * 2 ^ (i - 1) := by
        rw [show i + 1 - 1 = (i - 1) + 1 by omega, Nat.pow_succ, Nat.mul_comm (2 ^ (i - 1)) 2, ← Nat.mul_assoc, Nat.mul_assoc s, Nat.mul_comm (b % s) 2]
      rw [h6]
      have h7 : s * (2 * (b % s)) * 2 ^ (i - 1) ≤ s * b * 2 ^ (i - 1) := Nat.mul_le_mul_right _ (Nat.mul_le_mul_left s h5)
      rw [Nat.mul_comm s b] at h7
      omega
theorem gm_stepI {b s : Int} {i : Nat} (hb : 0 ≤ b) (hs : 0 < s ∧ s ≤ 1099511627776) (hm : i = 0 ∨ (s < b ∧ b.toNat * s.toNat * 2 ^ (i - 1) < 2 ^ 80)) : i + 1 = 0 ∨ (b % s < s ∧ s.toNat * (b % s).toNat * 2 ^ (i + 1 - 1) < 2 ^ 80) := by
  right
  have h := gm_step (b := b.toNat) (s := s.toNat) (i := i) (by omega) (by omega) (by rcases hm with h | h; exact Or.inl h; exact Or.inr ⟨by omega, h.2⟩)
  rw [← Int.toNat_emod hb (by omega)] at h
  have := Int.emod_nonneg b (show s ≠ 0 by omega)
  exact ⟨by omega, h.2⟩
theorem gm_end {b s : Int} {i : Nat} (hb : 0 ≤ b) (hs : 0 ≤ s) (hi : 100 ≤ i) (hm : i = 0 ∨ (s < b ∧ b.toNat * s.toNat * 2 ^ (i - 1) < 2 ^ 80)) : s = 0 := by
  rcases hm with h | ⟨h1, h2⟩
  · omega
  · by_cases h0 : s = 0
    · exact h0
    · exfalso
      have h3 : 1 ≤ b.toNat * s.toNat := Nat.mul_pos (show 0 < b.toNat by omega) (show 0 < s.toNat by omega)
      have h4 : 2 ^ 99 ≤ 2 ^ (i - 1) := Nat.pow_le_pow_right (by decide) (by omega)
      have h5 : 1 * 2 ^ 99 ≤ b.toNat * s.toNat * 2 ^ (i - 1) := Nat.mul_le_mul h3 h4
      have h6 : (2 : Nat) ^ 80 < 1 * 2 ^ 99 := by decide
      omega
theorem absI_nat (x : Int) : (absI x).toNat = x.natAbs := by rw [absI_eq]; simp
theorem idx_half {a b : Int} (h : 0 ≤ a + b ∧ a + b < 100000) : iI (a + b) / iI 2 = iI ((((a + b) / 2).toNat : Nat) : Int) := by
  have h2 : (iI 2).toInt = 2 := iI_toInt (by omega)
  have h1 := iI_toInt (z := a + b) (by omega)
  apply Int32.toInt_inj.mp
  rw [Int32.toInt_div_of_ne_right _ _ (by intro hh; rw [hh] at h2; revert h2; decide), h1, h2, Int.tdiv_eq_ediv_of_nonneg h.1, iI_toInt (by omega)]
  omega
/-! the least ratio, the slack -/
def lrat (a b : Nat → Int) : Nat → Nat
  | 0 => 0
  | k + 1 => if a k * b (lrat a b k) < a (lrat a b k) * b k then k else lrat a b k
theorem lrat_lt {a b : Nat → Int} : ∀ {n : Nat}, 0 < n → lrat a b n < n := by
  intro n
  induction n with
  | zero => intro h; omega
  | succ n ih =>
    intro _
    unfold lrat
    split
    · omega
    · rcases Nat.eq_zero_or_pos n with h | h
      · subst h; exact Nat.lt_succ_self 0
      · have := ih h; omega
theorem lrat_1 (a b : Nat → Int) : lrat a b 1 = 0 := by
  unfold lrat
  split
  · rfl
  · rfl
theorem lrat_step {a b : Nat → Int} {i j : Nat} (hj : j = lrat a b i) (h : a i * b j < a j * b i) : i = lrat a b (i + 1) := by
  unfold lrat; rw [← hj, if_pos h]
theorem lrat_stay {a b : Nat → Int} {i j : Nat} (hj : j = lrat a b i) (h : a j * b i ≤ a i * b j) : j = lrat a b (i + 1) := by
  unfold lrat; rw [← hj, if_neg (by omega)]
theorem mulb2 {x y a b : Int} (hx : -a ≤ x ∧ x ≤ a) (hy : -b ≤ y ∧ y ≤ b) : -(a * b) ≤ x * y ∧ x * y ≤ a * b := by
  rcases Int.le_total 0 y with h | h
  · exact mulb hx ⟨h, hy.2⟩
  · have := mulb (y := -y) (b := b) hx ⟨by omega, by omega⟩
    rw [Int.mul_neg] at this
    omega
/-- the least of d over those j < n for which P; -1: none -/
def least (P : Nat → Prop) [DecidablePred P] (d : Nat → Int) : Nat → Int
  | 0 => -1
  | k + 1 => if P k ∧ (least P d k = -1 ∨ d k < least P d k) then d k else least P d k
theorem least_step {P : Nat → Prop} [DecidablePred P] {d : Nat → Int} {i : Nat} {z : Int} (hz : z = least P d i) (h : P i ∧ (z = -1 ∨ d i < z)) : d i = least P d (i + 1) := by
  unfold least; rw [← hz, if_pos h]
theorem least_stay {P : Nat → Prop} [DecidablePred P] {d : Nat → Int} {i : Nat} {z : Int} (hz : z = least P d i) (h : ¬ (P i ∧ (z = -1 ∨ d i < z))) : z = least P d (i + 1) := by
  unfold least; rw [← hz, if_neg h]
/-- the state with the fraction x by y told -/
def tl (σ : AS) (x y : Int) : AS := ap (ap σ 0 6 (rdA x y)) 0 7 (rdB x y)
theorem bin_lo {xs : List Nat} {x lo' : Int} (hso : xs.Pairwise (· ≤ ·)) {k : Nat} (hm : k < xs.length) (hx : (xs[k] : Int) < x) (hlo : lo' = (k : Int) + 1) : ∀ j (h : j < xs.length), (j : Int) < lo' → (xs[j] : Int) < x := by
  intro j h a
  rcases Nat.lt_or_ge j k with b | b
  · have := List.pairwise_iff_getElem.mp hso j k h hm b
    omega
  · have e : j = k := by omega
    subst e; exact hx
theorem bin_hi {xs : List Nat} {x hi' : Int} (hso : xs.Pairwise (· ≤ ·)) {k : Nat} (hm : k < xs.length) (hx : x < (xs[k] : Int)) (hhi : hi' = (k : Int) - 1) : ∀ j (h : j < xs.length), hi' < (j : Int) → x < (xs[j] : Int) := by
  intro j h a
  rcases Nat.lt_or_ge k j with b | b
  · have := List.pairwise_iff_getElem.mp hso k j hm h b
    omega
  · have e : j = k := by omega
    subst e; exact hx
theorem bin_no {xs : List Nat} {x lo hi : Int} (h3 : ∀ j (h : j < xs.length), (j : Int) < lo → (xs[j] : Int) < x) (h4 : ∀ j (h : j < xs.length), hi < (j : Int) → x < (xs[j] : Int)) (hl : hi < lo) : ∀ j (h : j < xs.length), (xs[j] : Int) ≠ x := by
  intro j h
  rcases Int.lt_or_le (j : Int) lo with a | a
  · have := h3 j h a; omega
  · have := h4 j h (by omega); omega
theorem add_keep {xs : List Nat} {a c pa pb : Nat → Int} {i np : Nat} {z w : Int} (hz : ∀ j (h : j < xs.length), j < i → a j = sumB pa xs[j] np ∧ c j = sumB pb xs[j] np) : ∀ j (h : j < xs.length), j < i → va_up a i z j = sumB pa xs[j] np ∧ va_up c i w j = sumB pb xs[j] np := by
  intro j h b
  have e : ¬ j = i := by omega
  simp only [va_up, if_neg e]
  exact hz j h b
theorem add_done {xs : List Nat} {a c pa pb : Nat → Int} {i q np : Nat} (hz : ∀ j (h : j < xs.length), j < i → a j = sumB pa xs[j] np ∧ c j = sumB pb xs[j] np) (hx : i < xs.length) (hq : q = np) (hv : a i = sumB pa xs[i] q ∧ c i = sumB pb xs[i] q) : ∀ j (h : j < xs.length), j < i + 1 → a j = sumB pa xs[j] np ∧ c j = sumB pb xs[j] np := by
  intro j h b
  by_cases e : j = i
  · subst e; rw [← hq]; exact hv
  · exact hz j h (by omega)
theorem add_in {a c pa pb : Nat → Int} {i q S : Nat} (hv : a i = sumB pa S q ∧ c i = sumB pb S q) (h : S.testBit q = true) : va_up a i (a i + pa q) i = sumB pa S (q + 1) ∧ va_up c i (c i + pb q) i = sumB pb S (q + 1) := by
  simp only [va_up, if_pos rfl, sumB, h]
  rw [hv.1, hv.2]
  simp
theorem add_out {a c pa pb : Nat → Int} {i q S : Nat} (hv : a i = sumB pa S q ∧ c i = sumB pb S q) (h : ¬ S.testBit q = true) : a i = sumB pa S (q + 1) ∧ c i = sumB pb S (q + 1) := by
  unfold sumB
  rw [if_neg h, if_neg h, Int.add_zero, Int.add_zero]
  exact hv
