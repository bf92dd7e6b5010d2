def sgF (k : Nat) : Int := if k < 3 then 1 else -1
/-- what the class lists, by kind -/
def lst (k nl nt nb : Nat) (σ : AS) : List Nat := if k = 0 then wk nl (σ 1) (σ 2) 5 0 1 0 else if k = 1 then hg (σ 1) (σ 2) nl 0 181896 else if k = 2 then mt 0 0 4 else if k = 3 then (List.range (2 ^ nt)).filter (ftL (σ 7) nt (σ 0 4)) else (List.range (2 ^ nb)).filter (fun q => ftH (σ 12) q nb)
/-- the list of plans, as the class keeps it, is the one of the state -/
def CL (k nl nt nb : Nat) (σ κ : AS) (n : Nat) (sg : Int) : Prop := ∃ xs : List Nat, xs.length = n ∧ LsA (κ 1) xs ∧ xs.Pairwise (· ≤ ·) ∧ xs.Perm (lst k nl nt nb σ) ∧ (∀ x ∈ xs, x < 65536) ∧ (∀ j (h : j < xs.length), κ 2 j = sumB (σ (rowA k)) xs[j] (npF k nl nt nb) ∧ κ 3 j = sumB (σ (rowB k)) xs[j] (npF k nl nt nb)) ∧ sg = sgF k
theorem perm_nil {xs L : List Nat} (h : xs.Perm (L ++ [])) : xs.Perm L := by simpa using h
theorem perm_of_eq {xs L : List Nat} (h : xs = L) : xs.Perm L := h ▸ List.Perm.refl _
theorem len_perm {xs L : List Nat} {n N : Nat} (h : xs.Perm L) (hl : xs.length = n) (hL : L.length ≤ N) : n ≤ N := by
  have := h.length_eq; omega
theorem bd_up {xs : List Nat} {N M : Nat} (h : ∀ x ∈ xs, x < N) (hN : N ≤ M) : ∀ x ∈ xs, x < M := fun x hx => Nat.lt_of_lt_of_le (h x hx) hN
