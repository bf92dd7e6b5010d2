/-! the list of plans: an array that holds a list of sets; the best of a row of costs -/
def LsA (f : Nat → Int) (xs : List Nat) : Prop := ∀ (j : Nat) (h : j < xs.length), f j = (xs[j] : Int)
theorem LsA.nil {f : Nat → Int} : LsA f [] := fun j h => absurd h (Nat.not_lt_zero _)
theorem LsA.ins {f g : Nat → Int} {xs : List Nat} {i S : Nat} (h : LsA f xs) (hi : i ≤ xs.length) (h1 : ∀ j : Nat, j < i → g j = f j) (h2 : g i = (S : Int)) (h3 : ∀ j : Nat, i < j → j ≤ xs.length → g j = f (j - 1)) : LsA g (xs.insertIdx i S) := by
  intro j hj
  rw [List.length_insertIdx_of_le_length hi] at hj
  rcases Nat.lt_trichotomy j i with hji | hji | hji
  · rw [h1 j hji, List.getElem_insertIdx_of_lt hji]
    exact h j (by omega)
  · subst hji
    rw [h2, List.getElem_insertIdx_self]
  · rw [h3 j hji (by omega), List.getElem_insertIdx_of_gt hji]
    exact h (j - 1) (by omega)
theorem ins_sorted {xs : List Nat} {i S : Nat} (hs : xs.Pairwise (· ≤ ·)) (hi : i ≤ xs.length) (h1 : ∀ j (h : j < xs.length), i ≤ j → S < xs[j]) (h2 : ∀ j (h : j < xs.length), j < i → xs[j] ≤ S) : (xs.insertIdx i S).Pairwise (· ≤ ·) := by
  rw [List.pairwise_iff_getElem] at hs ⊢
  intro a b ha hb hab
  rw [List.length_insertIdx_of_le_length hi] at ha hb
  rcases Nat.lt_trichotomy a i with hai | hai | hai
  · rw [List.getElem_insertIdx_of_lt hai]
    rcases Nat.lt_trichotomy b i with hbi | hbi | hbi
    · rw [List.getElem_insertIdx_of_lt hbi]; exact hs a b _ _ hab
    · subst hbi; rw [List.getElem_insertIdx_self]; exact h2 a (by omega) hai
    · rw [List.getElem_insertIdx_of_gt hbi]; exact hs a (b - 1) _ _ (by omega)
  · subst hai
    rw [List.getElem_insertIdx_self, List.getElem_insertIdx_of_gt hab]
    exact Nat.le_of_lt (h1 (b - 1) (by omega) (by omega))
  · rw [List.getElem_insertIdx_of_gt hai, List.getElem_insertIdx_of_gt (by omega)]
    exact hs (a - 1) (b - 1) _ _ (by omega)
/-- the place of the least of c 0 .. c (n - 1), the first of like ones -/
def best (c : Nat → Int) : Nat → Nat
  | 0 => 0
  | k + 1 => if c k < c (best c k) then k else best c k
theorem best_lt {c : Nat → Int} : ∀ {n : Nat}, 0 < n → best c n < n := by
  intro n
  induction n with
  | zero => intro h; omega
  | succ n ih =>
    intro _
    unfold best
    split
    · omega
    · rcases Nat.eq_zero_or_pos n with h | h
      · subst h; exact Nat.lt_succ_self 0
      · have := ih h; omega
theorem best_1 (c : Nat → Int) : best c 1 = 0 := by
  unfold best
  split
  · rfl
  · rfl
theorem best_min {c : Nat → Int} : ∀ {n k : Nat}, k < n → c (best c n) ≤ c k := by
  intro n
  induction n with
  | zero => intro k h; omega
  | succ n ih =>
    intro k hk
    unfold best
    rcases Nat.lt_or_ge k n with h | h
    · have := ih h
      split <;> omega
    · have e : k = n := by omega
      subst e
      split <;> omega
theorem best_first {c : Nat → Int} : ∀ {n k : Nat}, k < best c n → c (best c n) < c k := by
  intro n
  induction n with
  | zero => intro k h; exact absurd h (Nat.not_lt_zero _)
  | succ n ih =>
    intro k hk
    unfold best at hk ⊢
    split at hk
    · rename_i h1
      rw [if_pos h1]
      have := best_min (c := c) hk
      omega
    · rename_i h1
      rw [if_neg h1]
      exact ih hk
theorem best_congr {c d : Nat → Int} {n : Nat} (h : ∀ j : Nat, j < n → c j = d j) : best c n = best d n := by
  induction n with
  | zero => rfl
  | succ n ih =>
    have e := ih (fun j hj => h j (by omega))
    unfold best
    rw [← e]
    rcases Nat.eq_zero_or_pos n with h0 | h0
    · subst h0
      rw [h 0 (by omega), show best c 0 = 0 from rfl, h 0 (by omega)]
    · rw [h n (by omega), h (best c n) (by have := best_lt (c := c) h0; omega)]
def cst (sg : Int) (a b : Nat → Int) (p q : Int) (j : Nat) : Int := sg * (a j * q + b j * p)
theorem mulb {x y a b : Int} (hx : -a ≤ x ∧ x ≤ a) (hy : 0 ≤ y ∧ y ≤ b) : -(a * b) ≤ x * y ∧ x * y ≤ a * b := by
  have ha : 0 ≤ a := by omega
  have h1 : x * y ≤ a * y := Int.mul_le_mul_of_nonneg_right hx.2 hy.1
  have h2 : a * y ≤ a * b := Int.mul_le_mul_of_nonneg_left hy.2 ha
  have h3 : (-a) * y ≤ x * y := Int.mul_le_mul_of_nonneg_right hx.1 hy.1
  have h4 : (-a) * y = -(a * y) := Int.neg_mul a y
  omega
/-- the sum of the lines' f over the parts of S below n -/
def sumB (f : Nat → Int) (S : Nat) : Nat → Int
  | 0 => 0
  | p + 1 => sumB f S p + (if S.testBit p then f p else 0)
theorem sumB_bd {f : Nat → Int} {S n : Nat} (h : ∀ j : Nat, j < n → -100 ≤ f j ∧ f j ≤ 100) : -(100 * (n : Int)) ≤ sumB f S n ∧ sumB f S n ≤ 100 * (n : Int) := by
  induction n with
  | zero => unfold sumB; omega
  | succ n ih =>
    have h1 := ih (fun j hj => h j (by omega))
    have h2 := h n (by omega)
    unfold sumB
    split <;> omega
theorem cst_bd {sg : Int} {a b : Nat → Int} {p q : Int} {j : Nat} (hs : sg = 1 ∨ sg = -1) (ha : -1600 ≤ a j ∧ a j ≤ 1600) (hb : -1600 ≤ b j ∧ b j ≤ 1600) (hp : 0 ≤ p ∧ p ≤ 1000000) (hq : 0 ≤ q ∧ q ≤ 1000000) : -3200000000 ≤ cst sg a b p q j ∧ cst sg a b p q j ≤ 3200000000 := by
  unfold cst
  have h1 := mulb ha hq
  have h2 := mulb hb hp
  rcases hs with rfl | rfl <;> omega
theorem ins_h1 {g fb : Nat → Int} {i n : Nat} {z : Int} (hi : 0 < i) (h1 : ∀ j : Nat, j ≤ i → j < n → g j = fb j) : ∀ j : Nat, j ≤ i - 1 → j < n → va_up g i z j = fb j := by
  intro j a b
  have e : ¬ j = i := by omega
  simp only [va_up, if_neg e]
  exact h1 j (by omega) b
theorem ins_h2 {g fb : Nat → Int} {i n : Nat} {z : Int} (hz : z = fb (i - 1)) (h2 : ∀ j : Nat, i < j → j ≤ n → g j = fb (j - 1)) : ∀ j : Nat, i - 1 < j → j ≤ n → va_up g i z j = fb (j - 1) := by
  intro j a b
  by_cases e : j = i
  · subst e; simp only [va_up, if_pos rfl]; exact hz
  · simp only [va_up, if_neg e]; exact h2 j (by omega) b
theorem ins_h3 {xs : List Nat} {i S : Nat} (h3 : ∀ j (h : j < xs.length), i ≤ j → S < xs[j]) (hx : i - 1 < xs.length) (hS : S < xs[i - 1]) : ∀ j (h : j < xs.length), i - 1 ≤ j → S < xs[j] := by
  intro j h a
  by_cases e : j = i - 1
  · subst e; exact hS
  · exact h3 j h (by omega)
theorem ins_le {xs : List Nat} {i S : Nat} (hso : xs.Pairwise (· ≤ ·)) (hl : i = 0 ∨ ∃ h : i - 1 < xs.length, xs[i - 1] ≤ S) : ∀ j (h : j < xs.length), j < i → xs[j] ≤ S := by
  intro j h a
  rcases hl with hl | ⟨hx, hl⟩
  · omega
  · rcases Nat.lt_or_ge j (i - 1) with b | b
    · exact Nat.le_trans (List.pairwise_iff_getElem.mp hso j (i - 1) h hx b) hl
    · have e : j = i - 1 := by omega
      subst e; exact hl
theorem ins_LsA {f g : Nat → Int} {xs : List Nat} {i n S : Nat} (h : LsA f xs) (hn : xs.length = n) (hi : i ≤ n) (h1 : ∀ j : Nat, j ≤ i → j < n → g j = f j) (h2 : ∀ j : Nat, i < j → j ≤ n → g j = f (j - 1)) : LsA (va_up g i (S : Int)) (xs.insertIdx i S) := by
  refine h.ins (by omega) (fun j a => ?_) (by simp [va_up]) (fun j a b => ?_)
  · have e : ¬ j = i := by omega
    simp only [va_up, if_neg e]; exact h1 j (by omega) (by omega)
  · have e : ¬ j = i := by omega
    simp only [va_up, if_neg e]; exact h2 j a (by omega)
theorem best_step {c : Nat → Int} {i j : Nat} {z : Int} (hb : j = best c i) (hz : z = c j) (h : c i < z) : i = best c (i + 1) := by
  unfold best
  rw [← hb, ← hz, if_pos h]
theorem best_stay {c : Nat → Int} {i j : Nat} {z : Int} (hb : j = best c i) (hz : z = c j) (h : z ≤ c i) : j = best c (i + 1) := by
  unfold best
  rw [← hb, ← hz, if_neg (by omega)]
theorem all_step {f : Nat → Int} {i : Nat} (hz : ∀ j : Nat, j < i → 0 < f j) (h : 0 < f i) : ∀ j : Nat, j < i + 1 → 0 < f j := by
  intro j hj
  by_cases e : j = i
  · subst e; exact h
  · exact hz j (by omega)
