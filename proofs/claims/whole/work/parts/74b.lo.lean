/-! the reference's rows, once it has laid its plans out; its pieces -/
def LO (k nl nt nb : Nat) (σ μ : AS) (mn : Nat) : Prop := (PLs k nl nt nb σ).length = mn ∧ LsA (μ 2) (PLs k nl nt nb σ) ∧ (∀ j (h : j < (PLs k nl nt nb σ).length), μ 3 j = sgF k * sumB (σ (rowA k)) (PLs k nl nt nb σ)[j] (npF k nl nt nb)) ∧ (∀ j (h : j < (PLs k nl nt nb σ).length), μ 4 j = sgF k * sumB (σ (rowB k)) (PLs k nl nt nb σ)[j] (npF k nl nt nb))
theorem PLs_bd {k nl nt nb : Nat} {σ : AS} (hs : SI k nl nt nb σ) : ∀ x ∈ PLs k nl nt nb σ, x < 65536 := by
  intro x hx
  have h1 := List.mem_range.mp (List.mem_filter.mp hx).1
  have h2 : 2 ^ npF k nl nt nb ≤ 2 ^ 16 := Nat.pow_le_pow_right (by decide) (SI_np hs)
  omega
theorem LO_bd {k nl nt nb : Nat} {σ μ : AS} {mn : Nat} (hs : SI k nl nt nb σ) (hcap : (PLs k nl nt nb σ).length ≤ 2002) (h : LO k nl nt nb σ μ mn) : mn ≤ 2002 ∧ (∀ j : Nat, j < mn → -1600 ≤ μ 3 j ∧ μ 3 j ≤ 1600) ∧ (∀ j : Nat, j < mn → -1600 ≤ μ 4 j ∧ μ 4 j ≤ 1600) ∧ (∀ j : Nat, j < mn → 0 ≤ μ 2 j ∧ μ 2 j < 65536) := by
  obtain ⟨hl, hp, ha, hb⟩ := h
  have hl2 := SI_lines hs
  have hnp := SI_np hs
  have hsg : sgF k = 1 ∨ sgF k = -1 := by unfold sgF; split <;> simp
  refine ⟨by omega, fun j hj => ?_, fun j hj => ?_, fun j hj => ?_⟩
  · rw [ha j (by omega)]
    have := sumB_bd (S := (PLs k nl nt nb σ)[j]) hl2.1
    rcases hsg with e | e <;> rw [e] <;> omega
  · rw [hb j (by omega)]
    have := sumB_bd (S := (PLs k nl nt nb σ)[j]) hl2.2
    rcases hsg with e | e <;> rw [e] <;> omega
  · rw [hp j (by omega)]
    have := PLs_bd hs _ (List.getElem_mem (show j < (PLs k nl nt nb σ).length by omega))
    omega
theorem LO_keep {k nl nt nb : Nat} {σ μ μ2 : AS} {mn : Nat} (h : LO k nl nt nb σ μ mn) (e : μ2 2 = μ 2 ∧ μ2 3 = μ 3 ∧ μ2 4 = μ 4) : LO k nl nt nb σ μ2 mn := by
  unfold LO at *
  rw [e.1, e.2.1, e.2.2]
  exact h
def FPc (σ μ : AS) (mn pm : Nat) : Prop := (0 < pm ∧ pm ≤ 140) ∧ (pseq (μ 3) (μ 4) mn (σ 0 0) pm).1 = -1 ∧ (∀ j : Nat, j < pm → (pseq (μ 3) (μ 4) mn (σ 0 0) j).1 ≠ -1) ∧ (∀ j : Nat, j < pm → μ 5 j = (pseq (μ 3) (μ 4) mn (σ 0 0) j).1) ∧ (∀ j : Nat, j < pm → μ 6 j = (pseq (μ 3) (μ 4) mn (σ 0 0) j).2.1) ∧ (∀ j : Nat, j < pm → μ 7 j = (pseq (μ 3) (μ 4) mn (σ 0 0) j).2.2)
def H140R (k nl nt nb : Nat) (σ : AS) : Prop := ∀ (μ : AS) (mn : Nat), LO k nl nt nb σ μ mn → 0 < mn → (pseq (μ 3) (μ 4) mn (σ 0 0) 140).1 = -1
