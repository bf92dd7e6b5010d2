/-! the lower bound of all lines: at the start of each piece its plan is the best, and of like ones the steepest -/
theorem fpl_min {A B : Nat → Int} : ∀ {n k : Nat}, k < n → A (fpl A B n) < A k ∨ (A (fpl A B n) = A k ∧ B (fpl A B n) ≤ B k) := by
  intro n
  induction n with
  | zero => intro k h; omega
  | succ n ih =>
    intro k hk
    rw [show fpl A B (n + 1) = if A n < A (fpl A B n) ∨ (A n = A (fpl A B n) ∧ B n < B (fpl A B n)) then n else fpl A B n from rfl]
    rcases Nat.lt_or_ge k n with h | h
    · have := ih h
      split <;> omega
    · have e : k = n := by omega
      subst e
      split <;> omega
theorem nxs_min {gp gn : Nat → Int} {T : Int} : ∀ {n k : Nat}, k < n → 0 < gn k → ((nxs gp gn T n).1 = -1 → T * gn k ≤ gp k) ∧ ((nxs gp gn T n).1 ≠ -1 → gp k < T * gn k → (nxs gp gn T n).2.1 * gn k ≤ gp k * (nxs gp gn T n).2.2 ∧ ((nxs gp gn T n).2.1 * gn k = gp k * (nxs gp gn T n).2.2 → gn k ≤ (nxs gp gn T n).2.2)) := by
  intro n
  induction n with
  | zero => intro k h; omega
  | succ n ih =>
    intro k hk hg
    have hinv := nxs_inv (gp := gp) (gn := gn) (T := T) n
    rw [show nxs gp gn T (n + 1) = if 0 < gn n ∧ (gp n * (nxs gp gn T n).2.2 - (nxs gp gn T n).2.1 * gn n < 0 ∨ (gp n * (nxs gp gn T n).2.2 - (nxs gp gn T n).2.1 * gn n = 0 ∧ (nxs gp gn T n).1 ≠ -1 ∧ (nxs gp gn T n).2.2 < gn n)) then ((n : Int), gp n, gn n) else nxs gp gn T n from rfl]
    rcases Nat.lt_or_ge k n with h | h
    · have hi := ih h hg
      split
      · rename_i hc
        refine ⟨fun hh => absurd hh (by show ¬ (n : Int) = -1; omega), fun _ hk2 => ?_⟩
        show gp n * gn k ≤ gp k * gn n ∧ (gp n * gn k = gp k * gn n → gn k ≤ gn n)
        rcases hinv with ⟨e1, e2⟩ | ⟨j, hj, e, hj1, hj2⟩
        · exact absurd (hi.1 e1) (by omega)
        · rw [e] at hc hi
          have h3 := hi.2 (by show ¬ (j : Int) = -1; omega) hk2
          have h3a : gp j * gn k ≤ gp k * gn j := h3.1
          have h4 : gp n * gn j ≤ gp j * gn n := by
            rcases hc.2 with hq | ⟨hq, _, _⟩
            · exact Int.le_of_lt (Int.lt_of_sub_neg hq)
            · exact Int.le_of_eq (Int.eq_of_sub_eq_zero hq)
          -- multiply: gp n * gn j * gn k ≤ gp j * gn n * gn k ≤ gp k * gn j * gn n
          have h5 : (gp n * gn j) * gn k ≤ (gp j * gn n) * gn k := Int.mul_le_mul_of_nonneg_right h4 (Int.le_of_lt hg)
          have h6 : (gp j * gn k) * gn n ≤ (gp k * gn j) * gn n := Int.mul_le_mul_of_nonneg_right h3a (Int.le_of_lt hc.1)
          have e1 : (gp n * gn j) * gn k = (gp n * gn k) * gn j := by rw [Int.mul_assoc, Int.mul_comm (gn j), ← Int.mul_assoc]
          have e2 : (gp j * gn n) * gn k = (gp j * gn k) * gn n := by rw [Int.mul_assoc, Int.mul_comm (gn n), ← Int.mul_assoc]
          have e3 : (gp k * gn j) * gn n = (gp k * gn n) * gn j := by rw [Int.mul_assoc, Int.mul_comm (gn j), ← Int.mul_assoc]
          have h7 : (gp n * gn k) * gn j ≤ (gp k * gn n) * gn j := by omega
          refine ⟨Int.le_of_mul_le_mul_right h7 hj1, fun heq => ?_⟩
          rcases hc.2 with hq | ⟨_, _, hq3⟩
          · exfalso
            have h4s : gp n * gn j < gp j * gn n := Int.lt_of_sub_neg hq
            have h5s : (gp n * gn j) * gn k < (gp j * gn n) * gn k := Int.mul_lt_mul_of_pos_right h4s hg
            have h8 : (gp n * gn k) * gn j < (gp k * gn n) * gn j := by omega
            rw [heq] at h8
            omega
          · have hq3' : gn j < gn n := hq3
            have h9 : gp j * gn k = gp k * gn j := by
              have h10 : (gp n * gn k) * gn j = (gp k * gn n) * gn j := by rw [heq]
              have h11 : (gp j * gn k) * gn n = (gp k * gn j) * gn n := by omega
              exact Int.eq_of_mul_eq_mul_right (by omega) h11
            have := h3.2 h9
            have : gn k ≤ gn j := this
            omega
      · exact hi
    · have e : k = n := by omega
      subst e
      split
      · rename_i hc
        refine ⟨fun hh => absurd hh (by show ¬ (k : Int) = -1; omega), fun _ _ => ?_⟩
        show gp k * gn k ≤ gp k * gn k ∧ (gp k * gn k = gp k * gn k → gn k ≤ gn k)
        exact ⟨Int.le_refl _, fun _ => Int.le_refl _⟩
      · rename_i hc
        rcases hinv with ⟨e1, e2⟩ | ⟨j, hj, e, hj1, hj2⟩
        · refine ⟨fun _ => ?_, fun hh => absurd e1 hh⟩
          have e3 : (nxs gp gn T k).2.1 = T := by rw [e2]
          have e4 : (nxs gp gn T k).2.2 = 1 := by rw [e2]
          rw [e3, e4] at hc
          rcases Int.lt_or_le (gp k) (T * gn k) with hq | hq
          · exact absurd ⟨hg, Or.inl (by omega)⟩ hc
          · exact hq
        · rw [e] at hc ⊢
          refine ⟨fun hh => absurd hh (by show ¬ (j : Int) = -1; omega), fun _ _ => ?_⟩
          show gp j * gn k ≤ gp k * gn j ∧ (gp j * gn k = gp k * gn j → gn k ≤ gn j)
          constructor
          · rcases Int.lt_or_le (gp k * gn j) (gp j * gn k) with hq | hq
            · exact absurd ⟨hg, Or.inl (by show gp k * gn j - gp j * gn k < 0; omega)⟩ hc
            · exact hq
          · intro heq
            rcases Int.lt_or_le (gn j) (gn k) with hq | hq
            · exact absurd ⟨hg, Or.inr ⟨by show gp k * gn j - gp j * gn k = 0; omega, by show (j : Int) ≠ -1; omega, hq⟩⟩ hc
            · exact hq
def ENV (A B : Nat → Int) (n j : Nat) (y z : Int) : Prop := 0 ≤ y ∧ 0 < z ∧ ∀ k : Nat, k < n → (B j - B k) * y ≤ (A k - A j) * z ∧ ((B j - B k) * y = (A k - A j) * z → B j ≤ B k)
theorem ENV_0 {A B : Nat → Int} {n : Nat} (h0 : 0 < n) : ENV A B n (fpl A B n) 0 1 := by
  refine ⟨Int.le_refl 0, by omega, fun k hk => ?_⟩
  have := fpl_min (A := A) (B := B) hk
  rw [Int.mul_zero, Int.mul_one]
  omega
theorem ENV_pos {A B : Nat → Int} {n j k : Nat} {y z : Int} (h : ENV A B n j y z) (hk : k < n) (hg : 0 < B j - B k) : (B j - B k) * y < (A k - A j) * z ∧ 0 < A k - A j := by
  obtain ⟨hy, hz, h3⟩ := h
  obtain ⟨h4, h5⟩ := h3 k hk
  have h6 : (B j - B k) * y < (A k - A j) * z := by
    rcases Int.lt_or_eq_of_le h4 with h7 | h7
    · exact h7
    · have := h5 h7; omega
  refine ⟨h6, ?_⟩
  have h8 : 0 ≤ (B j - B k) * y := Int.mul_nonneg (Int.le_of_lt hg) hy
  have h9 : 0 * z < (A k - A j) * z := by rw [Int.zero_mul]; omega
  exact Int.lt_of_mul_lt_mul_right h9 (Int.le_of_lt hz)
theorem ENV_next {A B : Nat → Int} {n j j' : Nat} {y z T : Int} (h : ENV A B n j y z) (hj' : j' < n) (he : nxs (fun k => A k - A j) (fun k => B j - B k) T n = ((j' : Int), A j' - A j, B j - B j')) (hg : 0 < B j - B j') (hT : A j' - A j < T * (B j - B j')) : ENV A B n j' (A j' - A j) (B j - B j') := by
  have hp := ENV_pos h hj' hg
  refine ⟨Int.le_of_lt hp.2, hg, fun k hk => ?_⟩
  have key : (B j - B k) * (A j' - A j) ≤ (A k - A j) * (B j - B j') ∧ ((B j - B k) * (A j' - A j) = (A k - A j) * (B j - B j') → B j' ≤ B k) := by
    rcases Int.lt_or_le 0 (B j - B k) with hk1 | hk1
    · have hm := nxs_min (gp := fun k => A k - A j) (gn := fun k => B j - B k) (T := T) hk hk1
      rw [he] at hm
      rcases Int.lt_or_le (A k - A j) (T * (B j - B k)) with hc | hc
      · have h2 := hm.2 (by show ¬ (j' : Int) = -1; omega) hc
        have h2a : (A j' - A j) * (B j - B k) ≤ (A k - A j) * (B j - B j') := h2.1
        have h2b : (A j' - A j) * (B j - B k) = (A k - A j) * (B j - B j') → (B j - B k) ≤ (B j - B j') := h2.2
        rw [Int.mul_comm (B j - B k)]
        exact ⟨h2a, fun hh => by have := h2b hh; omega⟩
      · have h3 : (A j' - A j) * (B j - B k) < (T * (B j - B j')) * (B j - B k) := Int.mul_lt_mul_of_pos_right hT hk1
        have h4 : (T * (B j - B k)) * (B j - B j') ≤ (A k - A j) * (B j - B j') := Int.mul_le_mul_of_nonneg_right hc (Int.le_of_lt hg)
        have e : (T * (B j - B j')) * (B j - B k) = (T * (B j - B k)) * (B j - B j') := by rw [Int.mul_assoc, Int.mul_comm (B j - B j'), ← Int.mul_assoc]
        rw [Int.mul_comm (B j - B k)]
        exact ⟨by omega, fun hh => by omega⟩
    · obtain ⟨hy, hz, h3⟩ := h
      obtain ⟨h4, _⟩ := h3 k hk
      have h5 : ((B j - B k) * y) * (B j - B j') ≤ ((A k - A j) * z) * (B j - B j') := Int.mul_le_mul_of_nonneg_right h4 (Int.le_of_lt hg)
      have h6 : ((A j' - A j) * z) * (B j - B k) ≤ ((B j - B j') * y) * (B j - B k) := Int.mul_le_mul_of_nonpos_right (Int.le_of_lt hp.1) hk1
      have e1 : ((B j - B k) * y) * (B j - B j') = ((B j - B j') * y) * (B j - B k) := by rw [Int.mul_comm ((B j - B k) * y), Int.mul_comm (B j - B k) y, ← Int.mul_assoc]
      have e2 : ((A j' - A j) * z) * (B j - B k) = ((B j - B k) * (A j' - A j)) * z := by rw [Int.mul_comm ((A j' - A j) * z), ← Int.mul_assoc]
      have e3 : ((A k - A j) * z) * (B j - B j') = ((A k - A j) * (B j - B j')) * z := by rw [Int.mul_assoc, Int.mul_comm z, ← Int.mul_assoc]
      have h7 : ((B j - B k) * (A j' - A j)) * z ≤ ((A k - A j) * (B j - B j')) * z := by omega
      exact ⟨Int.le_of_mul_le_mul_right h7 hz, fun _ => by omega⟩
  have s1 : (B j' - B k) * (A j' - A j) = (B j - B k) * (A j' - A j) - (B j - B j') * (A j' - A j) := by rw [← Int.sub_mul]; congr 1; omega
  have s2 : (A k - A j') * (B j - B j') = (A k - A j) * (B j - B j') - (A j' - A j) * (B j - B j') := by rw [← Int.sub_mul]; congr 1; omega
  have s3 : (B j - B j') * (A j' - A j) = (A j' - A j) * (B j - B j') := Int.mul_comm _ _
  rw [s1, s2, s3]
  exact ⟨by omega, fun hh => key.2 (by omega)⟩
theorem ENV_i {A B : Nat → Int} {n : Nat} {T : Int} (h0 : 0 < n) : ∀ i : Nat, (pseq A B n T i).1 ≠ -1 → ENV A B n (pseq A B n T i).1.toNat (pseq A B n T i).2.1 (pseq A B n T i).2.2 := by
  intro i
  induction i with
  | zero =>
    intro _
    have := ENV_0 (A := A) (B := B) h0
    simpa [pseq] using this
  | succ i ih =>
    intro hi
    have hprev : (pseq A B n T i).1 ≠ -1 := fun hh => hi (pseq_stop hh)
    have hE := ih hprev
    rcases pseq_plan (A := A) (B := B) (T := T) h0 i with e | ⟨j, hj, e⟩
    · exact absurd e hprev
    · rw [e] at hE
      rw [show ((j : Int)).toNat = j from Int.toNat_natCast j] at hE
      have hnx := pseq_next (A := A) (B := B) (n := n) (T := T) e
      rw [hnx] at hi ⊢
      rcases nxs_inv (gp := fun k => A k - A j) (gn := fun k => B j - B k) (T := T) n with ⟨h1, _⟩ | ⟨j', hj', e2, h1, h2⟩
      · exact absurd h1 hi
      · rw [e2]
        show ENV A B n ((j' : Int)).toNat (A j' - A j) (B j - B j')
        rw [Int.toNat_natCast j']
        exact ENV_next hE hj' e2 h1 h2
theorem pseq_bd {a b : Nat → Int} {n : Nat} {sg T : Int} (ha : ∀ j : Nat, j < n → -1600 ≤ a j ∧ a j ≤ 1600) (hb : ∀ j : Nat, j < n → -1600 ≤ b j ∧ b j ≤ 1600) (hs : sg = 1 ∨ sg = -1) (h0 : 0 < n) (hT : 1 ≤ T ∧ T ≤ 100) : ∀ i : Nat, (pseq (fun q => sg * a q) (fun q => sg * b q) n T i).1 ≠ -1 → (0 ≤ (pseq (fun q => sg * a q) (fun q => sg * b q) n T i).2.1 ∧ (pseq (fun q => sg * a q) (fun q => sg * b q) n T i).2.1 ≤ 3200) ∧ (1 ≤ (pseq (fun q => sg * a q) (fun q => sg * b q) n T i).2.2 ∧ (pseq (fun q => sg * a q) (fun q => sg * b q) n T i).2.2 ≤ 3200) := by
  intro i hi
  have hE := ENV_i (T := T) h0 i hi
  refine ⟨⟨hE.1, ?_⟩, hE.2.1, ?_⟩
  all_goals
    cases i with
    | zero => simp [pseq]
    | succ i =>
      have hprev : (pseq (fun q => sg * a q) (fun q => sg * b q) n T i).1 ≠ -1 := fun hh => hi (pseq_stop hh)
      rcases pseq_plan (A := fun q => sg * a q) (B := fun q => sg * b q) (T := T) h0 i with e | ⟨j, hj, e⟩
      · exact absurd e hprev
      · rw [pseq_next e] at hi ⊢
        rcases nxs_inv (gp := fun k => sg * a k - sg * a j) (gn := fun k => sg * b j - sg * b k) (T := T) n with ⟨h1, _⟩ | ⟨j', hj', e2, h1, h2⟩
        · exact absurd h1 hi
        · rw [e2]
          have b1 := sgb hs (ha j hj)
          have b2 := sgb hs (ha j' hj')
          have b3 := sgb hs (hb j hj)
          have b4 := sgb hs (hb j' hj')
          show _ ≤ (3200 : Int)
          first | (show sg * a j' - sg * a j ≤ 3200; omega) | (show sg * b j - sg * b j' ≤ 3200; omega)
