/-! pieces: the first plan, the one that crosses it first, and so on; A, B: the lines, turned so that less is better -/
def fpl (A B : Nat → Int) : Nat → Nat
  | 0 => 0
  | k + 1 => if A k < A (fpl A B k) ∨ (A k = A (fpl A B k) ∧ B k < B (fpl A B k)) then k else fpl A B k
theorem fpl_lt {A B : Nat → Int} : ∀ {n : Nat}, 0 < n → fpl A B n < n := by
  intro n
  induction n with
  | zero => intro h; omega
  | succ n ih =>
    intro _
    unfold fpl
    split
    · omega
    · rcases Nat.eq_zero_or_pos n with h | h
      · subst h; exact Nat.lt_succ_self 0
      · have := ih h; omega
theorem fpl_1 (A B : Nat → Int) : fpl A B 1 = 0 := by
  unfold fpl
  split
  · rfl
  · rfl
theorem fpl_step {A B : Nat → Int} {i j : Nat} (hj : j = fpl A B i) (h : A i < A j ∨ (A i = A j ∧ B i < B j)) : i = fpl A B (i + 1) := by
  unfold fpl; rw [← hj, if_pos h]
theorem fpl_stay {A B : Nat → Int} {i j : Nat} (hj : j = fpl A B i) (h : ¬ (A i < A j ∨ (A i = A j ∧ B i < B j))) : j = fpl A B (i + 1) := by
  unfold fpl; rw [← hj, if_neg h]
/-- of those that gain (gn > 0) and cross ahead of T: the one that crosses first, the steepest of like ones -/
def nxs (gp gn : Nat → Int) (T : Int) : Nat → Int × Int × Int
  | 0 => (-1, T, 1)
  | k + 1 => if 0 < gn k ∧ (gp k * (nxs gp gn T k).2.2 - (nxs gp gn T k).2.1 * gn k < 0 ∨ (gp k * (nxs gp gn T k).2.2 - (nxs gp gn T k).2.1 * gn k = 0 ∧ (nxs gp gn T k).1 ≠ -1 ∧ (nxs gp gn T k).2.2 < gn k)) then ((k : Int), gp k, gn k) else nxs gp gn T k
theorem nxs_step {gp gn : Nat → Int} {T x y z : Int} {i : Nat} (h : (x, y, z) = nxs gp gn T i) (hc : 0 < gn i ∧ (gp i * z - y * gn i < 0 ∨ (gp i * z - y * gn i = 0 ∧ x ≠ -1 ∧ z < gn i))) : ((i : Int), gp i, gn i) = nxs gp gn T (i + 1) := by
  unfold nxs; rw [← h, if_pos hc]
theorem nxs_stay {gp gn : Nat → Int} {T x y z : Int} {i : Nat} (h : (x, y, z) = nxs gp gn T i) (hc : ¬ (0 < gn i ∧ (gp i * z - y * gn i < 0 ∨ (gp i * z - y * gn i = 0 ∧ x ≠ -1 ∧ z < gn i)))) : (x, y, z) = nxs gp gn T (i + 1) := by
  unfold nxs; rw [← h, if_neg hc]
/-- what the search says of itself: no plan yet, or one with its own gap and gain, ahead of T -/
theorem nxs_inv {gp gn : Nat → Int} {T : Int} (k : Nat) : ((nxs gp gn T k).1 = -1 ∧ (nxs gp gn T k).2 = (T, 1)) ∨ ∃ j : Nat, j < k ∧ nxs gp gn T k = ((j : Int), gp j, gn j) ∧ 0 < gn j ∧ gp j < T * gn j := by
  induction k with
  | zero => exact Or.inl ⟨rfl, rfl⟩
  | succ k ih =>
    unfold nxs
    split
    · rename_i h
      refine Or.inr ⟨k, Nat.lt_succ_self k, rfl, h.1, ?_⟩
      rcases ih with ⟨e1, e2⟩ | ⟨j, hj, e, h1, h2⟩
      · have e3 : (nxs gp gn T k).2.1 = T := by rw [e2]
        have e4 : (nxs gp gn T k).2.2 = 1 := by rw [e2]
        rw [e1, e3, e4] at h
        rcases h.2 with h3 | ⟨_, h3, _⟩
        · omega
        · exact absurd rfl h3
      · rw [e] at h
        have h0 : gp k * gn j ≤ gp j * gn k := by
          rcases h.2 with h3 | ⟨h3, _, _⟩
          · exact Int.le_of_lt (Int.lt_of_sub_neg h3)
          · exact Int.le_of_eq (Int.eq_of_sub_eq_zero h3)
        have h4 : gp j * gn k < (T * gn j) * gn k := Int.mul_lt_mul_of_pos_right h2 h.1
        have h5 : gp k * gn j < (T * gn k) * gn j := by
          have : (T * gn j) * gn k = (T * gn k) * gn j := by rw [Int.mul_assoc, Int.mul_comm (gn j), ← Int.mul_assoc]
          omega
        exact Int.lt_of_mul_lt_mul_right h5 (Int.le_of_lt h1)
    · rcases ih with h | ⟨j, hj, h⟩
      · exact Or.inl h
      · exact Or.inr ⟨j, Nat.lt_succ_of_lt hj, h⟩
theorem nxs_congr {gp gn gp' gn' : Nat → Int} {T : Int} {n : Nat} (h : ∀ j : Nat, j < n → gp j = gp' j ∧ gn j = gn' j) : nxs gp gn T n = nxs gp' gn' T n := by
  induction n with
  | zero => rfl
  | succ n ih =>
    have e := ih (fun j hj => h j (by omega))
    obtain ⟨e1, e2⟩ := h n (by omega)
    unfold nxs
    rw [e, e1, e2]
def pseq (A B : Nat → Int) (n : Nat) (T : Int) : Nat → Int × Int × Int
  | 0 => ((fpl A B n : Int), 0, 1)
  | i + 1 => if (pseq A B n T i).1 = -1 then (-1, 0, 1) else nxs (fun k => A k - A (pseq A B n T i).1.toNat) (fun k => B (pseq A B n T i).1.toNat - B k) T n
theorem pseq_stop {A B : Nat → Int} {n : Nat} {T : Int} {i : Nat} (h : (pseq A B n T i).1 = -1) : (pseq A B n T (i + 1)).1 = -1 := by
  unfold pseq; rw [if_pos h]
theorem pseq_stop_le {A B : Nat → Int} {n : Nat} {T : Int} {i : Nat} (h : (pseq A B n T i).1 = -1) : ∀ j : Nat, (pseq A B n T (i + j)).1 = -1 := by
  intro j
  induction j with
  | zero => exact h
  | succ j ih => exact pseq_stop ih
theorem pseq_lt {A B : Nat → Int} {n : Nat} {T : Int} {i m : Nat} (h : (pseq A B n T m).1 = -1) (hi : (pseq A B n T i).1 ≠ -1) : i < m := by
  rcases Nat.lt_or_ge i m with h1 | h1
  · exact h1
  · have := pseq_stop_le h (i - m)
    rw [show m + (i - m) = i by omega] at this
    exact absurd this hi
theorem pseq_next {A B : Nat → Int} {n : Nat} {T : Int} {i j : Nat} (h : (pseq A B n T i).1 = (j : Int)) : pseq A B n T (i + 1) = nxs (fun k => A k - A j) (fun k => B j - B k) T n := by
  rw [show pseq A B n T (i + 1) = if (pseq A B n T i).1 = -1 then (-1, 0, 1) else nxs (fun k => A k - A (pseq A B n T i).1.toNat) (fun k => B (pseq A B n T i).1.toNat - B k) T n from rfl, if_neg (by omega), h]
  simp
/-- a piece's plan is one of the plans -/
theorem pseq_plan {A B : Nat → Int} {n : Nat} {T : Int} (h0 : 0 < n) : ∀ i : Nat, (pseq A B n T i).1 = -1 ∨ ∃ j : Nat, j < n ∧ (pseq A B n T i).1 = (j : Int) := by
  intro i
  induction i with
  | zero => exact Or.inr ⟨fpl A B n, fpl_lt h0, rfl⟩
  | succ i ih =>
    rcases ih with h | ⟨j, hj, e⟩
    · exact Or.inl (pseq_stop h)
    · rw [pseq_next e]
      rcases nxs_inv (gp := fun k => A k - A j) (gn := fun k => B j - B k) (T := T) n with ⟨h1, _⟩ | ⟨k, hk, e2, _⟩
      · exact Or.inl h1
      · exact Or.inr ⟨k, hk, by rw [e2]⟩
theorem sgb {sg x : Int} (hs : sg = 1 ∨ sg = -1) {N : Int} (h : -N ≤ x ∧ x ≤ N) : -N ≤ sg * x ∧ sg * x ≤ N := by
  rcases hs with rfl | rfl <;> omega
theorem cst_turn (sg : Int) (a b : Nat → Int) (p q : Int) (j : Nat) : cst sg a b p q j = (sg * a j) * q + (sg * b j) * p := by
  unfold cst; rw [Int.mul_add, Int.mul_assoc, Int.mul_assoc]
/-- the best sum at an end, times what is below there -/
def bsum (a b fp fA fB : Nat → Int) (c i : Nat) : Int := a (fp (min i (c - 1))).toNat * fB i + b (fp (min i (c - 1))).toNat * fA i
def hend (v q : Nat → Int) : Nat → Nat
  | 0 => 0
  | k + 1 => if v (hend v q k) * q (k + 1) < v (k + 1) * q (hend v q k) then k + 1 else hend v q k
theorem hend_le {v q : Nat → Int} : ∀ k : Nat, hend v q k ≤ k := by
  intro k
  induction k with
  | zero => exact Nat.le_refl 0
  | succ k ih => unfold hend; split <;> omega
theorem hend_step {v q : Nat → Int} {i j : Nat} (hj : j = hend v q i) (h : v j * q (i + 1) < v (i + 1) * q j) : i + 1 = hend v q (i + 1) := by
  unfold hend; rw [← hj, if_pos h]
theorem hend_stay {v q : Nat → Int} {i j : Nat} (hj : j = hend v q i) (h : v (i + 1) * q j ≤ v j * q (i + 1)) : j = hend v q (i + 1) := by
  unfold hend; rw [← hj, if_neg (by omega)]
theorem bsum_bd {a b fp fA fB : Nat → Int} {n c i : Nat} (hn : ∀ j : Nat, j < n → -1600 ≤ a j ∧ a j ≤ 1600) (hm : ∀ j : Nat, j < n → -1600 ≤ b j ∧ b j ≤ 1600) (hp : ∀ j : Nat, j < c → 0 ≤ fp j ∧ fp j < (n : Int)) (hc : 0 < c) (hA : 0 ≤ fA i ∧ fA i ≤ 3200) (hB : 1 ≤ fB i ∧ fB i ≤ 3200) : -10240000 ≤ bsum a b fp fA fB c i ∧ bsum a b fp fA fB c i ≤ 10240000 := by
  have h1 := hp (min i (c - 1)) (by omega)
  have h2 := mulb (hn (fp (min i (c - 1))).toNat (by omega)) (show 0 ≤ fB i ∧ fB i ≤ 3200 by omega)
  have h3 := mulb (hm (fp (min i (c - 1))).toNat (by omega)) hA
  unfold bsum
  omega
theorem ext_step {Q : Nat → Prop} {i : Nat} (hz : ∀ j : Nat, j < i → ¬ Q j) (h : ¬ Q i) : ∀ j : Nat, j < i + 1 → ¬ Q j := by
  intro j hj
  by_cases e : j = i
  · subst e; exact h
  · exact hz j (by omega)
theorem last_step {Q : Nat → Prop} {i : Int} {c : Nat} (hz : ∀ j : Nat, i < (j : Int) → j ≤ c → ¬ Q j) (h : ¬ Q i.toNat) (hi : 0 ≤ i) : ∀ j : Nat, i + (-1) < (j : Int) → j ≤ c → ¬ Q j := by
  intro j h1 h2
  by_cases e : j = i.toNat
  · subst e; exact h
  · exact hz j (by omega) h2
theorem cut_next {A B : Nat → Int} {n : Nat} {T r y z : Int} {i w : Nat} (h : (pseq A B n T i).1 = (w : Int)) (hs : (r, y, z) = nxs (fun k => A k - A w) (fun k => B w - B k) T n) : r = (pseq A B n T (i + 1)).1 ∧ y = (pseq A B n T (i + 1)).2.1 ∧ z = (pseq A B n T (i + 1)).2.2 := by
  rw [pseq_next h, ← hs]
  exact ⟨rfl, rfl, rfl⟩
theorem cut_rng {A B : Nat → Int} {n : Nat} {T r y z : Int} (h0 : 0 < n) (i : Nat) (h : r = (pseq A B n T i).1 ∧ y = (pseq A B n T i).2.1 ∧ z = (pseq A B n T i).2.2) : -1 ≤ r ∧ r < (n : Int) := by
  rcases pseq_plan (A := A) (B := B) (T := T) h0 i with e | ⟨j, hj, e⟩
  · rw [h.1, e]; omega
  · rw [h.1, e]; omega
theorem cut_ha {A B f : Nat → Int} {n : Nat} {T x : Int} {i : Nat} (ha : ∀ j : Nat, j < i → f j = (pseq A B n T j).1 ∧ (pseq A B n T j).1 ≠ -1) (hx : x = (pseq A B n T i).1) (hc : x ≠ -1) : ∀ j : Nat, j < i + 1 → va_up f i x j = (pseq A B n T j).1 ∧ (pseq A B n T j).1 ≠ -1 := by
  intro j hj
  by_cases e : j = i
  · subst e
    simp only [va_up, if_pos rfl]
    exact ⟨hx, by rw [← hx]; exact hc⟩
  · simp only [va_up, if_neg e]
    exact ha j (by omega)
theorem cut_hb {A B A1 B1 A2 B2 : Nat → Int} {n : Nat} {T r y z : Int} {i : Nat} (hb : ∀ j : Nat, j < i → A1 j = (pseq A B n T j).2.1 ∧ B1 j = (pseq A B n T j).2.2) (hd : A1 i = (pseq A B n T i).2.1 ∧ B1 i = (pseq A B n T i).2.2) (h : (r = -1 ∧ A2 = A1 ∧ B2 = B1) ∨ (r ≠ -1 ∧ A2 = va_up A1 (i + 1) y ∧ B2 = va_up B1 (i + 1) z)) : ∀ j : Nat, j < i + 1 → A2 j = (pseq A B n T j).2.1 ∧ B2 j = (pseq A B n T j).2.2 := by
  intro j hj
  have h1 : A1 j = (pseq A B n T j).2.1 ∧ B1 j = (pseq A B n T j).2.2 := by
    by_cases e : j = i
    · subst e; exact hd
    · exact hb j (by omega)
  rcases h with ⟨_, rfl, rfl⟩ | ⟨_, rfl, rfl⟩
  · exact h1
  · have e : ¬ j = i + 1 := by omega
    simp only [va_up, if_neg e]
    exact h1
theorem cut_hd {A B A1 B1 A2 B2 : Nat → Int} {n : Nat} {T r y z : Int} {i : Nat} (hn : r = (pseq A B n T (i + 1)).1 ∧ y = (pseq A B n T (i + 1)).2.1 ∧ z = (pseq A B n T (i + 1)).2.2) (h : (r = -1 ∧ A2 = A1 ∧ B2 = B1) ∨ (r ≠ -1 ∧ A2 = va_up A1 (i + 1) y ∧ B2 = va_up B1 (i + 1) z)) : r ≠ -1 → A2 (i + 1) = (pseq A B n T (i + 1)).2.1 ∧ B2 (i + 1) = (pseq A B n T (i + 1)).2.2 := by
  intro hr
  rcases h with ⟨h, _⟩ | ⟨_, rfl, rfl⟩
  · exact absurd h hr
  · simp only [va_up, if_pos rfl]
    exact hn.2
theorem cut_e {A B : Nat → Int} {n : Nat} {T x : Int} {i : Nat} (hi : i ≤ 140) (hx : x = (pseq A B n T i).1) (h140 : (pseq A B n T 140).1 = -1) (h : x = -1 ∨ 140 ≤ i) : (pseq A B n T i).1 = -1 := by
  rcases h with h | h
  · rw [← hx]; exact h
  · have e : i = 140 := by omega
    rw [e]; exact h140
theorem cut_c {A B : Nat → Int} {n : Nat} {T x : Int} {i : Nat} (hi : i ≤ 140) (h1 : i = 0 → x ≠ -1) (hx : x = (pseq A B n T i).1) (h140 : (pseq A B n T 140).1 = -1) (h : x = -1 ∨ 140 ≤ i) : 0 < i ∧ i ≤ 140 := by
  refine ⟨?_, hi⟩
  rcases Nat.eq_zero_or_pos i with e | e
  · exact absurd (by rw [hx]; exact cut_e hi hx h140 h) (h1 e)
  · exact e
theorem cut_a {A B f A1 B1 : Nat → Int} {n : Nat} {T x y : Int} {i : Nat} (ha : ∀ j : Nat, j < i → f j = (pseq A B n T j).1 ∧ (pseq A B n T j).1 ≠ -1) (hb : ∀ j : Nat, j < i → A1 j = (pseq A B n T j).2.1 ∧ B1 j = (pseq A B n T j).2.2) : ∀ j : Nat, j < i → f j = (pseq A B n T j).1 ∧ va_up A1 i x j = (pseq A B n T j).2.1 ∧ va_up B1 i y j = (pseq A B n T j).2.2 := by
  intro j hj
  have e : ¬ j = i := by omega
  simp only [va_up, if_neg e]
  exact ⟨(ha j hj).1, hb j hj⟩
