/-! the reference's search of the next piece is the same one -/
def RX (gp gn : Nat → Int) (T : Int) (i : Nat) (x y z : Int) : Prop := x = (nxs gp gn T i).1 ∧ (x ≠ -1 → y = (nxs gp gn T i).2.1 ∧ z = (nxs gp gn T i).2.2)
theorem nxs_s (gp gn : Nat → Int) (T : Int) (k : Nat) : nxs gp gn T (k + 1) = if 0 < gn k ∧ (gp k * (nxs gp gn T k).2.2 - (nxs gp gn T k).2.1 * gn k < 0 ∨ (gp k * (nxs gp gn T k).2.2 - (nxs gp gn T k).2.1 * gn k = 0 ∧ (nxs gp gn T k).1 ≠ -1 ∧ (nxs gp gn T k).2.2 < gn k)) then ((k : Int), gp k, gn k) else nxs gp gn T k := rfl
theorem RX_acc {gp gn : Nat → Int} {T x y z : Int} {i : Nat} (h : RX gp gn T i x y z) (hg : 0 < gn i) (hT : gp i < T * gn i) (hs : x = -1 ∨ gp i * z < y * gn i ∨ (gp i * z = y * gn i ∧ z < gn i)) : RX gp gn T (i + 1) (i : Int) (gp i) (gn i) := by
  have key : nxs gp gn T (i + 1) = ((i : Int), gp i, gn i) := by
    rw [nxs_s]
    refine if_pos ⟨hg, ?_⟩
    by_cases hx : x = -1
    · rcases nxs_inv (gp := gp) (gn := gn) (T := T) i with ⟨e1, e2⟩ | ⟨j, hj, e, _⟩
      · rw [e2]; left; show gp i * 1 - T * gn i < 0; omega
      · exfalso
        have h1 := h.1
        rw [e, hx] at h1
        have : (-1 : Int) = (j : Int) := h1
        omega
    · obtain ⟨e1, e2⟩ := h.2 hx
      rw [← e1, ← e2, ← h.1]
      rcases hs with h1 | h1 | h1
      · exact absurd h1 hx
      · left; omega
      · right; exact ⟨by omega, hx, h1.2⟩
  unfold RX
  rw [key]
  exact ⟨rfl, fun _ => ⟨rfl, rfl⟩⟩
theorem RX_rej {gp gn : Nat → Int} {T x y z : Int} {i : Nat} (h : RX gp gn T i x y z) (hr : ¬ (0 < gn i ∧ gp i < T * gn i ∧ (x = -1 ∨ gp i * z < y * gn i ∨ (gp i * z = y * gn i ∧ z < gn i)))) : RX gp gn T (i + 1) x y z := by
  have key : nxs gp gn T (i + 1) = nxs gp gn T i := by
    by_cases hc : 0 < gn i ∧ (gp i * (nxs gp gn T i).2.2 - (nxs gp gn T i).2.1 * gn i < 0 ∨ (gp i * (nxs gp gn T i).2.2 - (nxs gp gn T i).2.1 * gn i = 0 ∧ (nxs gp gn T i).1 ≠ -1 ∧ (nxs gp gn T i).2.2 < gn i))
    · exfalso
      have e0 : nxs gp gn T (i + 1) = ((i : Int), gp i, gn i) := by rw [nxs_s]; exact if_pos hc
      have hlt : gp i < T * gn i := by
        rcases nxs_inv (gp := gp) (gn := gn) (T := T) (i + 1) with ⟨e1, _⟩ | ⟨j, hj, e, _, hj2⟩
        · rw [e0] at e1
          have : (i : Int) = -1 := e1
          omega
        · rw [e0] at e
          have e3 : (i : Int) = (j : Int) := congrArg (fun q => q.1) e
          have e4 : i = j := by omega
          rw [e4]; exact hj2
      apply hr
      refine ⟨hc.1, hlt, ?_⟩
      by_cases hx : x = -1
      · exact Or.inl hx
      · obtain ⟨e1, e2⟩ := h.2 hx
        rw [← e1, ← e2] at hc
        rcases hc.2 with h1 | ⟨h1, _, h2⟩
        · exact Or.inr (Or.inl (by omega))
        · exact Or.inr (Or.inr ⟨by omega, h2⟩)
    · rw [nxs_s]; exact if_neg hc
  unfold RX
  rw [key]
  exact h
/-- the one found last, by its own place -/
theorem RX_at {A B : Nat → Int} {T x y z : Int} {i w : Nat} (h : RX (fun k => A k - A w) (fun k => B w - B k) T i x y z) (hx : x ≠ -1) : 0 ≤ x ∧ x < (i : Int) ∧ y = A x.toNat - A w ∧ z = B w - B x.toNat ∧ 0 < z := by
  rcases nxs_inv (gp := fun k => A k - A w) (gn := fun k => B w - B k) (T := T) i with ⟨e1, _⟩ | ⟨j, hj, e, h1, _⟩
  · exact absurd (h.1.trans e1) hx
  · have hx1 := h.1
    obtain ⟨e1, e2⟩ := h.2 hx
    rw [e] at hx1 e1 e2
    have hx2 : x = (j : Int) := hx1
    have e3 : y = A j - A w := e1
    have e4 : z = B w - B j := e2
    have h2 : 0 < B w - B j := h1
    subst hx2
    rw [Int.toNat_natCast]
    exact ⟨by omega, by omega, e3, e4, by omega⟩
theorem fp_arr {f : Nat → Int} {F : Nat → Int} {i : Nat} {z : Int} (h : ∀ j : Nat, j < i → f j = F j) (hz : z = F i) : ∀ j : Nat, j < i + 1 → va_up f i z j = F j := by
  intro j hj
  by_cases e : j = i
  · subst e; simp only [va_up, if_pos rfl]; exact hz
  · simp only [va_up, if_neg e]; exact h j (by omega)
theorem pseq_bd1 {a b : Nat → Int} {n : Nat} {T : Int} (ha : ∀ j : Nat, j < n → -1600 ≤ a j ∧ a j ≤ 1600) (hb : ∀ j : Nat, j < n → -1600 ≤ b j ∧ b j ≤ 1600) (h0 : 0 < n) (hT : 1 ≤ T ∧ T ≤ 100) (i : Nat) (hi : (pseq a b n T i).1 ≠ -1) : (0 ≤ (pseq a b n T i).2.1 ∧ (pseq a b n T i).2.1 ≤ 3200) ∧ (1 ≤ (pseq a b n T i).2.2 ∧ (pseq a b n T i).2.2 ≤ 3200) := by
  have e1 : (fun q => (1 : Int) * a q) = a := by funext q; rw [Int.one_mul]
  have e2 : (fun q => (1 : Int) * b q) = b := by funext q; rw [Int.one_mul]
  have := pseq_bd (sg := 1) ha hb (Or.inl rfl) h0 hT i
  rw [e1, e2] at this
  exact this hi
theorem ext_ne {A B : Nat → Int} {n i : Nat} {T : Int} (h : ∀ j : Nat, j < i → (pseq A B n T j).1 ≠ -1) (h1 : (pseq A B n T i).1 ≠ -1) : ∀ j : Nat, j < i + 1 → (pseq A B n T j).1 ≠ -1 := by
  intro j hj
  by_cases e : j = i
  · subst e; exact h1
  · exact h j (by omega)
theorem RX_end {A B : Nat → Int} {n i c w : Nat} {T x y z : Int} (h : (pseq A B n T c).1 = (w : Int)) (hi : i = n) (hR : RX (fun k => A k - A w) (fun k => B w - B k) T i x y z) : x = (pseq A B n T (c + 1)).1 ∧ (x ≠ -1 → y = (pseq A B n T (c + 1)).2.1 ∧ z = (pseq A B n T (c + 1)).2.2) := by
  subst hi
  rw [pseq_next h]
  exact hR
