/-- which sets are plans -/
def fit (k nl nt nb : Nat) (σ : AS) (S : Nat) : Bool := if k = 0 then wyF nl (σ 1) (σ 2) 6 0 1 S else if k = 1 then decide (szf S 16 = 5) && okT (σ 1) (σ 2) S nl else if k = 2 then ftP S 4 else if k = 3 then ftL (σ 7) nt (σ 0 4) S else ftH (σ 12) S nb
theorem fit_0 {k nl nt nb : Nat} {σ : AS} {S : Nat} (h : k = 0) : wyF nl (σ 1) (σ 2) 6 0 1 S = true ↔ fit k nl nt nb σ S = true := by subst h; exact Iff.rfl
theorem fit_1 {k nl nt nb : Nat} {σ : AS} {S : Nat} (h : k = 1) : (szf S 16 = 5 ∧ okT (σ 1) (σ 2) S nl = true) ↔ fit k nl nt nb σ S = true := by
  subst h
  show _ ↔ (decide (szf S 16 = 5) && okT (σ 1) (σ 2) S nl) = true
  simp
theorem fit_2 {k nl nt nb : Nat} {σ : AS} {S : Nat} (h : k = 2) : ftP S 4 = true ↔ fit k nl nt nb σ S = true := by subst h; exact Iff.rfl
theorem fit_3 {k nl nt nb : Nat} {σ : AS} {S : Nat} (h : k = 3) : ftL (σ 7) nt (σ 0 4) S = true ↔ fit k nl nt nb σ S = true := by subst h; exact Iff.rfl
theorem fit_4 {k nl nt nb : Nat} {σ : AS} {S : Nat} (h : 4 ≤ k) : ftH (σ 12) S nb = true ↔ fit k nl nt nb σ S = true := by
  unfold fit
  rw [if_neg (by omega), if_neg (by omega), if_neg (by omega), if_neg (by omega)]
/-- the plans of the state, in rising order -/
def PLs (k nl nt nb : Nat) (σ : AS) : List Nat := (List.range (2 ^ npF k nl nt nb)).filter (fit k nl nt nb σ)
theorem filt_le {P : Nat → Bool} {i N : Nat} (h : i < N) (hP : P i = true) : ((List.range i).filter P).length + 1 ≤ ((List.range N).filter P).length := by
  have h1 : (List.range (i + 1)).Sublist (List.range N) := by
    have := List.range_sublist (m := i + 1) (n := N)
    exact this.mpr (by omega)
  have h2 := (h1.filter P).length_le
  rw [List.range_succ, List.filter_append, List.length_append] at h2
  simpa [hP] using h2
theorem lsA_end {f : Nat → Int} {xs : List Nat} {n i : Nat} (h : LsA f xs) (hl : xs.length = n) : LsA (va_up f n (i : Int)) (xs ++ [i]) := by
  intro j hj
  rw [List.length_append, List.length_singleton] at hj
  by_cases e : j = n
  · subst e
    rw [List.getElem_append_right (by omega)]
    simp [va_up, hl]
  · rw [List.getElem_append_left (by omega)]
    simp only [va_up, if_neg e]
    exact h j (by omega)
theorem filt_end {xs : List Nat} {i : Nat} {P : Nat → Bool} (hx : xs = (List.range i).filter P) (hP : P i = true) : xs ++ [i] = (List.range (i + 1)).filter P := by
  rw [List.range_succ, List.filter_append, ← hx]
  simp [hP]
theorem sums_end {a : Nat → Int} {xs : List Nat} {n i : Nat} {F : Nat → Int} {z : Int} (h : ∀ j (hj : j < xs.length), a j = F xs[j]) (hl : xs.length = n) (hz : z = F i) : ∀ j (hj : j < (xs ++ [i]).length), va_up a n z j = F (xs ++ [i])[j] := by
  intro j hj
  rw [List.length_append, List.length_singleton] at hj
  by_cases e : j = n
  · subst e
    rw [List.getElem_append_right (by omega)]
    simp [va_up, hl, hz]
  · rw [List.getElem_append_left (by omega)]
    simp only [va_up, if_neg e]
    exact h j (by omega)
