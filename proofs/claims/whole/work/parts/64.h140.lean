/-! at most 140 pieces: unlike fractions in lowest terms, whose above and below add up to no more than 2000 -/
def cop (m : Nat) : List (Nat × Nat) := (List.range (m + 1)).flatMap (fun s => (List.range s).filterMap (fun p => if 0 < p ∧ 0 < s - p ∧ Nat.gcd p (s - p) = 1 then some (p, s - p) else none))
def FR : List (Nat × Nat) := cop 21
def wgt (y z : Int) : Int := if y + z < 22 then 22 - (y + z) else 0
def TSl (F : List (Nat × Nat)) (y z : Int) : Int := match F with
  | [] => 0
  | x :: F => (if y * (x.2 : Int) < (x.1 : Int) * z then wgt x.1 x.2 else 0) + TSl F y z
theorem wgt_nn (y z : Int) : 0 ≤ wgt y z := by unfold wgt; split <;> omega
theorem fr_trans {a b y z p q : Int} (hb : 0 < b) (hz : 0 < z) (hq : 0 < q) (h1 : a * z ≤ y * b) (h2 : y * q < p * z) : a * q < p * b := by
  have h3 : (a * z) * q ≤ (y * b) * q := Int.mul_le_mul_of_nonneg_right h1 (Int.le_of_lt hq)
  have h4 : (y * q) * b < (p * z) * b := Int.mul_lt_mul_of_pos_right h2 hb
  have e1 : (a * z) * q = (a * q) * z := by rw [Int.mul_assoc, Int.mul_comm z, ← Int.mul_assoc]
  have e2 : (y * b) * q = (y * q) * b := by rw [Int.mul_assoc, Int.mul_comm b, ← Int.mul_assoc]
  have e3 : (p * z) * b = (p * b) * z := by rw [Int.mul_assoc, Int.mul_comm z, ← Int.mul_assoc]
  have h5 : (a * q) * z < (p * b) * z := by omega
  exact Int.lt_of_mul_lt_mul_right h5 (Int.le_of_lt hz)
theorem TSl_mono {F : List (Nat × Nat)} (hF : ∀ x ∈ F, 0 < x.2) {a b y z : Int} (hb : 0 < b) (hz : 0 < z) (h : a * z ≤ y * b) : TSl F y z ≤ TSl F a b := by
  induction F with
  | nil => exact Int.le_refl _
  | cons x F ih =>
    have h1 := ih (fun u hu => hF u (List.mem_cons_of_mem _ hu))
    have hx := hF x List.mem_cons_self
    have hw := wgt_nn x.1 x.2
    unfold TSl
    by_cases h2 : y * (x.2 : Int) < (x.1 : Int) * z
    · have h3 := fr_trans hb hz (by omega) h h2
      rw [if_pos h2, if_pos h3]; omega
    · rw [if_neg h2]
      split <;> omega
theorem TSl_step {F : List (Nat × Nat)} (hF : ∀ x ∈ F, 0 < x.2) {a b y z w : Int} (hb : 0 < b) (hz : 0 < z) (h : a * z < y * b) (hx : ∃ x ∈ F, (x.1 : Int) * z = y * (x.2 : Int) ∧ w ≤ wgt x.1 x.2) : w + TSl F y z ≤ TSl F a b := by
  induction F with
  | nil => obtain ⟨x, hx, _⟩ := hx; exact absurd hx List.not_mem_nil
  | cons x F ih =>
    have hq := hF x List.mem_cons_self
    have hw := wgt_nn x.1 x.2
    obtain ⟨u, hu, hu1, hu2⟩ := hx
    rcases List.mem_cons.mp hu with rfl | hu
    · have h1 := TSl_mono (F := F) (fun v hv => hF v (List.mem_cons_of_mem _ hv)) hb hz (Int.le_of_lt h)
      unfold TSl
      have h2 : ¬ (y * (u.2 : Int) < (u.1 : Int) * z) := by omega
      have h3 : a * (u.2 : Int) < (u.1 : Int) * b := by
        have h4 : (a * z) * (u.2 : Int) < (y * b) * (u.2 : Int) := Int.mul_lt_mul_of_pos_right h (by omega)
        have e1 : (a * z) * (u.2 : Int) = (a * (u.2 : Int)) * z := by rw [Int.mul_assoc, Int.mul_comm z, ← Int.mul_assoc]
        have e2 : (y * b) * (u.2 : Int) = ((u.1 : Int) * b) * z := by rw [Int.mul_assoc, Int.mul_comm b, ← Int.mul_assoc, ← hu1, Int.mul_assoc, Int.mul_comm z, ← Int.mul_assoc]
        have h5 : (a * (u.2 : Int)) * z < ((u.1 : Int) * b) * z := by omega
        exact Int.lt_of_mul_lt_mul_right h5 (Int.le_of_lt hz)
      rw [if_neg h2, if_pos h3]; omega
    · have h1 := ih (fun v hv => hF v (List.mem_cons_of_mem _ hv)) ⟨u, hu, hu1, hu2⟩
      unfold TSl
      by_cases h2 : y * (x.2 : Int) < (x.1 : Int) * z
      · have h3 := fr_trans hb hz (by omega) (Int.le_of_lt h) h2
        rw [if_pos h2, if_pos h3]; omega
      · rw [if_neg h2]
        split <;> omega
theorem FR_pos : ∀ x ∈ FR, 0 < x.2 := by decide +kernel
theorem FR_all0 : ∀ y, y < 22 → ∀ z, z < 22 → 0 < y → 0 < z → y + z < 22 → FR.any (fun x => decide (x.1 * z = y * x.2 ∧ x.1 + x.2 ≤ y + z)) = true := by decide +kernel
theorem FR_all (y : Nat) (hy : y < 22) (z : Nat) (hz : z < 22) (h1 : 0 < y) (h2 : 0 < z) (h3 : y + z < 22) : ∃ x ∈ FR, x.1 * z = y * x.2 ∧ x.1 + x.2 ≤ y + z := by
  obtain ⟨x, hx, h⟩ := List.any_eq_true.mp (FR_all0 y hy z hz h1 h2 h3)
  exact ⟨x, hx, of_decide_eq_true h⟩
theorem FR_sum : TSl FR 0 1 = 1062 := by decide +kernel
theorem TS_step {a b y z : Int} (ha : 0 ≤ a) (hb : 0 < b) (hy : 0 < y) (hz : 0 < z) (h : a * z < y * b) : wgt y z + TSl FR y z ≤ TSl FR a b := by
  by_cases hs : y + z < 22
  · obtain ⟨x, hx, h1, h2⟩ := FR_all y.toNat (by omega) z.toNat (by omega) (by omega) (by omega) (by omega)
    refine TSl_step FR_pos hb hz h ⟨x, hx, ?_, ?_⟩
    · have e1 : ((x.1 * z.toNat : Nat) : Int) = ((y.toNat * x.2 : Nat) : Int) := by rw [h1]
      rw [Int.natCast_mul, Int.natCast_mul, Int.toNat_of_nonneg (by omega), Int.toNat_of_nonneg (by omega)] at e1
      exact e1
    · unfold wgt
      rw [if_pos hs, if_pos (by omega)]; omega
  · have h1 := TSl_mono (F := FR) FR_pos hb hz (Int.le_of_lt h)
    unfold wgt
    rw [if_neg hs]; omega
theorem TSl_nn {F : List (Nat × Nat)} (y z : Int) : 0 ≤ TSl F y z := by
  induction F with
  | nil => exact Int.le_refl _
  | cons x F ih =>
    have := wgt_nn x.1 x.2
    unfold TSl
    split <;> omega
/-- along the pieces: what is used up, and what is left of the fractions -/
theorem used {A B : Nat → Int} {n : Nat} {T : Int} (h0 : 0 < n) : ∀ i : Nat, (pseq A B n T i).1 ≠ -1 → 22 * (i : Int) - ((A (pseq A B n T i).1.toNat - A (fpl A B n)) + (B (fpl A B n) - B (pseq A B n T i).1.toNat)) + TSl FR (pseq A B n T i).2.1 (pseq A B n T i).2.2 ≤ 1062 := by
  intro i
  induction i with
  | zero =>
    intro _
    have e : (pseq A B n T 0) = ((fpl A B n : Int), 0, 1) := rfl
    rw [e]
    show 22 * ((0 : Nat) : Int) - ((A ((fpl A B n : Int)).toNat - A (fpl A B n)) + (B (fpl A B n) - B ((fpl A B n : Int)).toNat)) + TSl FR 0 1 ≤ 1062
    rw [FR_sum, Int.toNat_natCast]; omega
  | succ i ih =>
    intro hi
    have hprev : (pseq A B n T i).1 ≠ -1 := fun hh => hi (pseq_stop hh)
    have hE := ENV_i (A := A) (B := B) (T := T) h0 i hprev
    have h1 := ih hprev
    rcases pseq_plan (A := A) (B := B) (T := T) h0 i with e | ⟨j, hj, e⟩
    · exact absurd e hprev
    · rw [e, Int.toNat_natCast] at hE h1
      have hnx := pseq_next (A := A) (B := B) (n := n) (T := T) e
      rw [hnx] at hi ⊢
      rcases nxs_inv (gp := fun k => A k - A j) (gn := fun k => B j - B k) (T := T) n with ⟨h2, _⟩ | ⟨j', hj', e2, h2, h3⟩
      · exact absurd h2 hi
      · rw [e2]
        show 22 * ((i + 1 : Nat) : Int) - ((A ((j' : Int)).toNat - A (fpl A B n)) + (B (fpl A B n) - B ((j' : Int)).toNat)) + TSl FR (A j' - A j) (B j - B j') ≤ 1062
        rw [Int.toNat_natCast]
        have hp := ENV_pos hE hj' h2
        have hs := TS_step (a := (pseq A B n T i).2.1) (b := (pseq A B n T i).2.2) hE.1 hE.2.1 hp.2 h2 (by rw [Int.mul_comm]; exact hp.1)
        have hw : 22 - ((A j' - A j) + (B j - B j')) ≤ wgt (A j' - A j) (B j - B j') := by unfold wgt; split <;> omega
        omega
theorem at_most {A B : Nat → Int} {n : Nat} {T : Int} (h0 : 0 < n) (hA : ∀ i j : Nat, i < n → j < n → A i - A j ≤ 1000) (hB : ∀ i j : Nat, i < n → j < n → B i - B j ≤ 1000) : (pseq A B n T 140).1 = -1 := by
  by_cases h : (pseq A B n T 140).1 = -1
  · exact h
  · exfalso
    have h1 := used (A := A) (B := B) (T := T) h0 140 h
    have h2 := TSl_nn (F := FR) (pseq A B n T 140).2.1 (pseq A B n T 140).2.2
    have hf := fpl_lt (A := A) (B := B) h0
    rcases pseq_plan (A := A) (B := B) (T := T) h0 140 with e | ⟨j, hj, e⟩
    · exact h e
    · rw [e, Int.toNat_natCast] at h1
      have h3 := hA j (fpl A B n) hj hf
      have h4 := hB (fpl A B n) j hf hj
      omega
