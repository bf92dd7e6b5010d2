theorem least_cases {P : Nat → Prop} [DecidablePred P] {d : Nat → Int} (n : Nat) : least P d n = -1 ∨ ∃ j : Nat, j < n ∧ P j ∧ least P d n = d j := by
  induction n with
  | zero => exact Or.inl rfl
  | succ n ih =>
    rw [show least P d (n + 1) = if P n ∧ (least P d n = -1 ∨ d n < least P d n) then d n else least P d n from rfl]
    split
    · rename_i h; exact Or.inr ⟨n, by omega, h.1, rfl⟩
    · rcases ih with h | ⟨j, hj, h1, h2⟩
      · exact Or.inl h
      · exact Or.inr ⟨j, by omega, h1, h2⟩
theorem slack_bd {n : Nat} {bt a b : Nat → Int} {sg t mo : Int} {pt : Nat} (hsg : sg = 1 ∨ sg = -1) (hA : ∀ j : Nat, j < n → -1600 ≤ a j ∧ a j ≤ 1600) (hB : ∀ j : Nat, j < n → -1600 ≤ b j ∧ b j ≤ 1600) (h0 : 0 < n) (ht : 0 ≤ t ∧ t ≤ 100) : -1 ≤ qSlack n bt a b sg pt t mo ∧ qSlack n bt a b sg pt t mo ≤ 7000000000 := by
  unfold qSlack
  split
  · rcases least_cases (P := fun j => inB bt pt j ≠ inB bt pt (best (cst sg a b t 1) n)) (d := fun j => cst sg a b t 1 j - cst sg a b t 1 (best (cst sg a b t 1) n)) n with h | ⟨j, hj, -, h⟩
    · rw [h]; omega
    · rw [h]
      have h1 := best_min (c := cst sg a b t 1) hj
      have hl := best_lt (c := cst sg a b t 1) h0
      have b1 := cst_bd hsg (hA _ hj) (hB _ hj) (show 0 ≤ t ∧ t ≤ 1000000 by omega) (show 0 ≤ (1 : Int) ∧ (1 : Int) ≤ 1000000 by omega)
      have b2 := cst_bd hsg (hA _ hl) (hB _ hl) (show 0 ≤ t ∧ t ≤ 1000000 by omega) (show 0 ≤ (1 : Int) ∧ (1 : Int) ≤ 1000000 by omega)
      show -1 ≤ cst sg a b t 1 j - cst sg a b t 1 (best (cst sg a b t 1) n) ∧ cst sg a b t 1 j - cst sg a b t 1 (best (cst sg a b t 1) n) ≤ 7000000000
      omega
  · omega
def qTol (n : Nat) (bt a b : Nat → Int) (sg : Int) (σ : AS) (pt : Nat) (t w : Int) : Int × AS := if n = 0 then (-3, σ) else if qSlack n bt a b sg pt t (bI (w = 1)) = -1 then (0, σ) else (1, tl σ (qSlack n bt a b sg pt t (bI (w = 1))) 1)
