def sgF (k : Nat) : Int := if k < 3 then 1 else -1
/-- what the class lists, by kind -/
def lst (k nl nt nb : Nat) (σ : AS) : List Nat := if k = 0 then wk nl (σ 1) (σ 2) 5 0 1 0 else if k = 1 then hg (σ 1) (σ 2) nl 0 181896 else if k = 2 then mt 0 0 4 else if k = 3 then (List.range (2 ^ nt)).filter (ftL (σ 7) nt (σ 0 4)) else (List.range (2 ^ nb)).filter (fun q => ftH (σ 12) q nb)
/-- the list of plans, as the class keeps it, is the one of the state -/
def CL (k nl nt nb : Nat) (σ κ : AS) (n : Nat) (sg : Int) : Prop := ∃ xs : List Nat, xs.length = n ∧ LsA (κ 1) xs ∧ xs.Pairwise (· ≤ ·) ∧ xs.Perm (lst k nl nt nb σ) ∧ (∀ x ∈ xs, x < 65536) ∧ (∀ j (h : j < xs.length), κ 2 j = sumB (σ (rowA k)) xs[j] (npF k nl nt nb) ∧ κ 3 j = sumB (σ (rowB k)) xs[j] (npF k nl nt nb)) ∧ sg = sgF k
theorem perm_nil {xs L : List Nat} (h : xs.Perm (L ++ [])) : xs.Perm L := by simpa using h
theorem perm_of_eq {xs L : List Nat} (h : xs = L) : xs.Perm L := h ▸ List.Perm.refl _
theorem len_perm {xs L : List Nat} {n N : Nat} (h : xs.Perm L) (hl : xs.length = n) (hL : L.length ≤ N) : n ≤ N := by
  have := h.length_eq; omega
theorem bd_up {xs : List Nat} {N M : Nat} (h : ∀ x ∈ xs, x < N) (hN : N ≤ M) : ∀ x ∈ xs, x < M := fun x hx => Nat.lt_of_lt_of_le (h x hx) hN
/-- the pieces, as the class keeps them, are those of its list -/
def CP (σ κ ρ : AS) (n c : Nat) (sg : Int) : Prop := (n = 0 ∧ c = 0) ∨ (0 < n ∧ 0 < c ∧ c ≤ 140 ∧ (pseq (fun q => sg * κ 2 q) (fun q => sg * κ 3 q) n (σ 0 0) c).1 = -1 ∧ (∀ j : Nat, j < c → (pseq (fun q => sg * κ 2 q) (fun q => sg * κ 3 q) n (σ 0 0) j).1 ≠ -1) ∧
  (∀ j : Nat, j < c → ρ 1 j = (pseq (fun q => sg * κ 2 q) (fun q => sg * κ 3 q) n (σ 0 0) j).1 ∧ ρ 2 j = (pseq (fun q => sg * κ 2 q) (fun q => sg * κ 3 q) n (σ 0 0) j).2.1 ∧ ρ 3 j = (pseq (fun q => sg * κ 2 q) (fun q => sg * κ 3 q) n (σ 0 0) j).2.2) ∧ ρ 2 c = σ 0 0 ∧ ρ 3 c = 1)
def H140 (k nl nt nb : Nat) (σ : AS) : Prop := ∀ (κ : AS) (n : Nat) (sg : Int), CL k nl nt nb σ κ n sg → 0 < n → (pseq (fun q => sg * κ 2 q) (fun q => sg * κ 3 q) n (σ 0 0) 140).1 = -1
def CA (k nl nt nb : Nat) (σ κ ρ : AS) (n c : Nat) (sg f g : Int) : Prop := (f = 0 ∨ (f = 1 ∧ CL k nl nt nb σ κ n sg)) ∧ (g = 0 ∨ (g = 1 ∧ f = 1 ∧ CP σ κ ρ n c sg))
theorem SI_top {k nl nt nb : Nat} {σ : AS} (h : SI k nl nt nb σ) : 1 ≤ σ 0 0 ∧ σ 0 0 ≤ 100 := h.2.2.2.2.1
theorem SI_lines {k nl nt nb : Nat} {σ : AS} (h : SI k nl nt nb σ) : (∀ j : Nat, j < npF k nl nt nb → -100 ≤ σ (rowA k) j ∧ σ (rowA k) j ≤ 100) ∧ (∀ j : Nat, j < npF k nl nt nb → -100 ≤ σ (rowB k) j ∧ σ (rowB k) j ≤ 100) := by
  obtain ⟨hk, hnl, hnt, hnb, h00, h04, h1, h2, h12, h3, h4, h5, h6, h7, h8, h9, h10, h11, h12b⟩ := h
  rcases (show k = 0 ∨ k = 1 ∨ k = 2 ∨ k = 3 ∨ k = 4 by omega) with rfl | rfl | rfl | rfl | rfl
  · exact ⟨h3, h4⟩
  · exact ⟨h3, h4⟩
  · exact ⟨h5, h6⟩
  · exact ⟨h8, h9⟩
  · exact ⟨h10, h11⟩
theorem SI_np {k nl nt nb : Nat} {σ : AS} (h : SI k nl nt nb σ) : npF k nl nt nb ≤ 16 := npF_le h.2.1 h.2.2.1 h.2.2.2.1
/-- bounds of what the list holds -/
theorem CL_bd {k nl nt nb : Nat} {σ κ : AS} {n : Nat} {sg : Int} (hs : SI k nl nt nb σ) (hcap : (lst k nl nt nb σ).length ≤ 2002) (h : CL k nl nt nb σ κ n sg) : n ≤ 2002 ∧ (∀ j : Nat, j < n → -1600 ≤ κ 2 j ∧ κ 2 j ≤ 1600) ∧ (∀ j : Nat, j < n → -1600 ≤ κ 3 j ∧ κ 3 j ≤ 1600) ∧ (sg = 1 ∨ sg = -1) := by
  obtain ⟨xs, hl, hls, ho, hp, hb, hab, hsg⟩ := h
  have hl2 := SI_lines hs
  have hnp := SI_np hs
  refine ⟨len_perm hp hl hcap, fun j hj => ?_, fun j hj => ?_, ?_⟩
  · rw [(hab j (by omega)).1]
    have := sumB_bd (S := xs[j]) hl2.1
    omega
  · rw [(hab j (by omega)).2]
    have := sumB_bd (S := xs[j]) hl2.2
    omega
  · rw [hsg]; unfold sgF; split <;> simp
