theorem npF_0 {k nl nt nb : Nat} (h : k < 2) : npF k nl nt nb = nl := if_pos h
theorem npF_2 {k nl nt nb : Nat} (h : k = 2) : npF k nl nt nb = 16 := by subst h; rfl
theorem npF_3 {k nl nt nb : Nat} (h : k = 3) : npF k nl nt nb = nt := by subst h; rfl
theorem npF_4 {k nl nt nb : Nat} (h : 4 ≤ k) : npF k nl nt nb = nb := by
  unfold npF; rw [if_neg (by omega), if_neg (by omega), if_neg (by omega)]
theorem npF_le {k nl nt nb : Nat} (h1 : nl ≤ 14) (h2 : nt ≤ 8) (h3 : nb ≤ 8) : npF k nl nt nb ≤ 16 := by
  unfold npF; split
  · omega
  · split
    · omega
    · split <;> omega
theorem rowA_0 {k : Nat} (h : k < 2) : rowA k = 3 := if_pos h
theorem rowA_2 {k : Nat} (h : k = 2) : rowA k = 5 := by subst h; rfl
theorem rowA_3 {k : Nat} (h : k = 3) : rowA k = 8 := by subst h; rfl
theorem rowA_4 {k : Nat} (h : 4 ≤ k) : rowA k = 10 := by
  unfold rowA; rw [if_neg (by omega), if_neg (by omega), if_neg (by omega)]
theorem rowB_0 {k : Nat} (h : k < 2) : rowB k = 4 := if_pos h
theorem rowB_2 {k : Nat} (h : k = 2) : rowB k = 6 := by subst h; rfl
theorem rowB_3 {k : Nat} (h : k = 3) : rowB k = 9 := by subst h; rfl
theorem rowB_4 {k : Nat} (h : 4 ≤ k) : rowB k = 11 := by
  unfold rowB; rw [if_neg (by omega), if_neg (by omega), if_neg (by omega)]
theorem mI_bd {r w n : Nat} {σ : AS} (hw : 0 < w) (h : ∀ d i : Nat, d < w → i < n → -2147483648 ≤ σ (r + d) i ∧ σ (r + d) i < 2147483648) : ∀ j : Nat, j < w * n → -2147483648 ≤ mI r w σ j ∧ mI r w σ j < 2147483648 := by
  intro j hj
  exact h (j % w) (j / w) (Nat.mod_lt j hw) (Nat.div_lt_of_lt_mul hj)
theorem lt4 {P : Nat → Prop} (h0 : P 0) (h1 : P 1) (h2 : P 2) (h3 : P 3) : ∀ d, d < 4 → P d := by
  intro d hd
  rcases (show d = 0 ∨ d = 1 ∨ d = 2 ∨ d = 3 by omega) with rfl | rfl | rfl | rfl
  · exact h0
  · exact h1
  · exact h2
  · exact h3
theorem lt3 {P : Nat → Prop} (h0 : P 0) (h1 : P 1) (h2 : P 2) : ∀ d, d < 3 → P d := by
  intro d hd
  rcases (show d = 0 ∨ d = 1 ∨ d = 2 by omega) with rfl | rfl | rfl
  · exact h0
  · exact h1
  · exact h2
theorem lt2 {P : Nat → Prop} (h0 : P 0) (h1 : P 1) : ∀ d, d < 2 → P d := by
  intro d hd
  rcases (show d = 0 ∨ d = 1 by omega) with rfl | rfl
  · exact h0
  · exact h1
theorem mI_0 {r w : Nat} {σ : AS} (f : Nat → Int) (g : Nat → Int) (h : ∀ j : Nat, j < 32 → f j = 0) : ∀ j : Nat, j < 32 → f j = mI 5 2 (up2 (up2 σ 5 (fun _ => 0)) 6 (fun _ => 0)) j := by
  intro j hj
  rw [h j hj]
  show 0 = up2 (up2 σ 5 (fun _ => 0)) 6 (fun _ => 0) (5 + j % 2) (j / 2)
  rcases Nat.mod_two_eq_zero_or_one j with e | e <;> rw [e] <;> rfl
theorem mI_up0 {r w : Nat} {σ : AS} (hw : 0 < w) (h : 6 < r ∨ r + w ≤ 5) : mI r w (up2 (up2 σ 5 (fun _ => 0)) 6 (fun _ => 0)) = mI r w σ := by
  rw [mI_other hw (by omega), mI_other hw (by omega)]
