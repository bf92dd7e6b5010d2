/-! the ends of the pieces: where a plan's span begins and ends -/
/-- the pieces' rows, in the turned lines A, B -/
def PCE (A B : Nat → Int) (n c : Nat) (T : Int) (fp fA fB : Nat → Int) : Prop := 0 < n ∧ 0 < c ∧ (pseq A B n T c).1 = -1 ∧ (∀ j : Nat, j < c → (pseq A B n T j).1 ≠ -1) ∧ (∀ j : Nat, j < c → fp j = (pseq A B n T j).1 ∧ fA j = (pseq A B n T j).2.1 ∧ fB j = (pseq A B n T j).2.2) ∧ fA c = T ∧ fB c = 1
theorem pc_w {A B : Nat → Int} {n c : Nat} {T : Int} {fp fA fB : Nat → Int} (h : PCE A B n c T fp fA fB) {j : Nat} (hj : j < c) : (fp j).toNat < n ∧ (pseq A B n T j).1 = (((fp j).toNat : Nat) : Int) := by
  obtain ⟨h0, h1, h3, h4, h5, -⟩ := h
  rcases pseq_plan (A := A) (B := B) (T := T) h0 j with e | ⟨i, hi, e⟩
  · exact absurd e (h4 j hj)
  · have e2 : fp j = (i : Int) := by rw [(h5 j hj).1, e]
    rw [e2, Int.toNat_natCast]; exact ⟨hi, e⟩
theorem pc_env {A B : Nat → Int} {n c : Nat} {T : Int} {fp fA fB : Nat → Int} (h : PCE A B n c T fp fA fB) {j : Nat} (hj : j < c) : ENV A B n (fp j).toNat (fA j) (fB j) := by
  obtain ⟨h0, h1, h3, h4, h5, -⟩ := h
  have := ENV_i (A := A) (B := B) (T := T) h0 j (h4 j hj)
  rw [(h5 j hj).1, (h5 j hj).2.1, (h5 j hj).2.2]
  exact this
theorem pc_b {A B : Nat → Int} {n c : Nat} {T : Int} {fp fA fB : Nat → Int} (hT : 1 ≤ T) (h : PCE A B n c T fp fA fB) {j : Nat} (hj : j ≤ c) : 0 ≤ fA j ∧ 0 < fB j := by
  rcases Nat.lt_or_ge j c with hq | hq
  · have := pc_env h hq; exact ⟨this.1, this.2.1⟩
  · have e : j = c := by omega
    subst e
    obtain ⟨-, -, -, -, -, h6, h7⟩ := h
    rw [h6, h7]; omega
theorem pc_T {A B : Nat → Int} {n c : Nat} {T : Int} {fp fA fB : Nat → Int} (hT : 1 ≤ T) (h : PCE A B n c T fp fA fB) {j : Nat} (hj : j ≤ c) : fA j ≤ T * fB j := by
  have hh := h
  obtain ⟨h0, h1, h3, h4, h5, h6, h7⟩ := h
  rcases Nat.lt_or_ge j c with hq | hq
  · cases j with
    | zero =>
      rw [(h5 0 hq).2.1, (h5 0 hq).2.2]
      show (0 : Int) ≤ T * 1
      omega
    | succ j =>
      have hw := pc_w hh (show j < c by omega)
      rw [(h5 _ hq).2.1, (h5 _ hq).2.2, pseq_next hw.2]
      have hne := h4 _ hq
      rw [pseq_next hw.2] at hne
      rcases nxs_inv (gp := fun k => A k - A (fp j).toNat) (gn := fun k => B (fp j).toNat - B k) (T := T) n with ⟨e, _⟩ | ⟨i, hi, e, g1, g2⟩
      · exact absurd e hne
      · rw [e]; exact Int.le_of_lt g2
  · have e : j = c := by omega
    subst e
    rw [h6, h7]; omega
theorem pc_start {A B : Nat → Int} {n c : Nat} {T : Int} {fp fA fB : Nat → Int} (h : PCE A B n c T fp fA fB) {j : Nat} (hj : j < c) : bstAt A B n (fp j).toNat (fA j) (fB j) := by
  intro k hk
  rw [bst_r, Int.mul_comm (fA j)]
  exact ((pc_env h hj).2.2 k hk).1
/-- at the end of a piece its plan is the best still -/
theorem pc_next {A B : Nat → Int} {n c : Nat} {T : Int} {fp fA fB : Nat → Int} (hT : 1 ≤ T) (h : PCE A B n c T fp fA fB) {j : Nat} (hj : j < c) : bstAt A B n (fp j).toNat (fA (j + 1)) (fB (j + 1)) ∧ fA j * fB (j + 1) ≤ fA (j + 1) * fB j := by
  have hh := h
  have hw := pc_w hh hj
  have hE := pc_env hh hj
  have hTj := pc_T hT hh (Nat.le_of_lt hj)
  obtain ⟨h0, h1, h3, h4, h5, h6, h7⟩ := h
  rcases Nat.lt_or_ge (j + 1) c with hq | hq
  · have hs := pc_start hh hq
    have hne := h4 _ hq
    have e5 := h5 _ hq
    rw [pseq_next hw.2] at hne e5
    rcases nxs_inv (gp := fun k => A k - A (fp j).toNat) (gn := fun k => B (fp j).toNat - B k) (T := T) n with ⟨e, _⟩ | ⟨i, hi, e, g1, g2⟩
    · exact absurd e hne
    · rw [e] at e5
      have e5a : fp (j + 1) = (i : Int) := e5.1
      have e5b : fA (j + 1) = A i - A (fp j).toNat := e5.2.1
      have e5c : fB (j + 1) = B (fp j).toNat - B i := e5.2.2
      rw [e5a, Int.toNat_natCast] at hs
      constructor
      · intro k hk
        have hk2 := hs k hk
        have same : A (fp j).toNat * fB (j + 1) + B (fp j).toNat * fA (j + 1) = A i * fB (j + 1) + B i * fA (j + 1) := by
          rw [e5b, e5c, Int.mul_sub, Int.mul_sub, Int.mul_sub, Int.mul_sub, Int.mul_comm (B (fp j).toNat) (A i), Int.mul_comm (B (fp j).toNat) (A (fp j).toNat), Int.mul_comm (B i) (A i), Int.mul_comm (B i) (A (fp j).toNat)]
          omega
        omega
      · have hp := (ENV_pos hE hi g1).1
        rw [e5b, e5c, Int.mul_comm (fA j)]
        exact Int.le_of_lt hp
  · have e : j + 1 = c := by omega
    rw [e, h6, h7]
    constructor
    · intro k hk
      rw [bst_r]
      rcases Int.lt_or_le 0 (B (fp j).toNat - B k) with hg | hg
      · have hm := (nxs_min (gp := fun k => A k - A (fp j).toNat) (gn := fun k => B (fp j).toNat - B k) (T := T) hk hg).1
        rw [← pseq_next hw.2, e] at hm
        have := hm h3
        rw [Int.mul_one]; exact this
      · have g := (hE.2.2 k hk).1
        have hz := hE.2.1
        have g2 : (B (fp j).toNat - B k) * (T * fB j) ≤ (B (fp j).toNat - B k) * fA j := Int.mul_le_mul_of_nonpos_left hg hTj
        have g3 : (T * (B (fp j).toNat - B k)) * fB j ≤ ((A k - A (fp j).toNat) * 1) * fB j := by
          rw [Int.mul_one]
          have e3 : (T * (B (fp j).toNat - B k)) * fB j = (B (fp j).toNat - B k) * (T * fB j) := by rw [Int.mul_comm T, Int.mul_assoc]
          omega
        exact Int.le_of_mul_le_mul_right g3 hz
    · rw [Int.mul_one]; exact hTj
theorem pc_mono {A B : Nat → Int} {n c : Nat} {T : Int} {fp fA fB : Nat → Int} (hT : 1 ≤ T) (h : PCE A B n c T fp fA fB) {i : Nat} : ∀ j, i ≤ j → j ≤ c → fA i * fB j ≤ fA j * fB i := by
  intro j
  induction j with
  | zero => intro hi _; rw [show i = 0 by omega]; exact Int.le_refl _
  | succ j ih =>
    intro hi hj
    by_cases e : i = j + 1
    · rw [e]; exact Int.le_refl _
    · have h1 := ih (by omega) (by omega)
      have h2 := (pc_next hT h (show j < c by omega)).2
      exact fr_le_tr (pc_b hT h (show i ≤ c by omega)).2 (pc_b hT h (show j ≤ c by omega)).2 (pc_b hT h hj).2 h1 h2
theorem pc_find {A B : Nat → Int} {n c : Nat} {T : Int} {fp fA fB : Nat → Int} (hT : 1 ≤ T) (h : PCE A B n c T fp fA fB) {x y : Int} (hy : 0 < y) (hx : 0 ≤ x) (hxT : x ≤ T * y) : ∃ j : Nat, j < c ∧ fA j * y ≤ x * fB j ∧ x * fB (j + 1) ≤ fA (j + 1) * y := by
  have key : ∀ m, m ≤ c → (∃ j : Nat, j < m ∧ fA j * y ≤ x * fB j ∧ x * fB (j + 1) ≤ fA (j + 1) * y) ∨ fA m * y ≤ x * fB m := by
    intro m
    induction m with
    | zero =>
      intro _
      right
      have hc := h.2.1
      have h5 := h.2.2.2.2.1 0 hc
      rw [h5.2.1, h5.2.2]
      show (0 : Int) * y ≤ x * 1
      rw [Int.zero_mul]; omega
    | succ m ih =>
      intro hm
      rcases ih (by omega) with ⟨j, hj, g⟩ | g
      · exact Or.inl ⟨j, by omega, g⟩
      · rcases Int.lt_or_le (x * fB (m + 1)) (fA (m + 1) * y) with hq | hq
        · exact Or.inl ⟨m, by omega, g, Int.le_of_lt hq⟩
        · exact Or.inr hq
  rcases key c (Nat.le_refl _) with g | g
  · exact g
  · have hc := h.2.1
    obtain ⟨-, -, -, -, -, h6, h7⟩ := id h
    rw [h6, h7] at g
    refine ⟨c - 1, by omega, ?_, ?_⟩
    · have h1 := pc_T hT h (show c - 1 ≤ c by omega)
      have e1 : x = T * y := by omega
      rw [e1]
      have := Int.mul_le_mul_of_nonneg_right h1 (Int.le_of_lt hy)
      rw [Int.mul_right_comm T y]; exact this
    · rw [show c - 1 + 1 = c by omega, h6, h7]; omega
theorem same_line {A B : Nat → Int} {n u w : Nat} {x y : Int} (hA : A u = A w) (hB : B u = B w) (h : bstAt A B n w x y) : bstAt A B n u x y := by
  intro j hj; rw [hA, hB]; exact h j hj
/-- a plan that is best at x by y is best at an end on either side -/
theorem pc_touch {A B : Nat → Int} {n c : Nat} {T : Int} {fp fA fB : Nat → Int} (hT : 1 ≤ T) (h : PCE A B n c T fp fA fB) {u : Nat} (hu : u < n) {x y : Int} (hy : 0 < y) (hx : 0 ≤ x) (hxT : x ≤ T * y) (hb : bstAt A B n u x y) : ∃ i i' : Nat, i ≤ c ∧ i' ≤ c ∧ fA i * y ≤ x * fB i ∧ x * fB i' ≤ fA i' * y ∧ bstAt A B n u (fA i) (fB i) ∧ bstAt A B n u (fA i') (fB i') := by
  obtain ⟨j, hj, g1, g2⟩ := pc_find hT h hy hx hxT
  have hw := (pc_w h hj).1
  have s0 := pc_start h hj
  have s1 := (pc_next hT h hj).1
  have p0 := pc_b hT h (Nat.le_of_lt hj)
  have p1 := pc_b hT h (show j + 1 ≤ c by omega)
  have hbw := hb _ hw
  have h0u := s0 u hu
  have h1u := s1 u hu
  rcases Int.lt_trichotomy (B u) (B (fp j).toNat) with hq | hq | hq
  · -- falls below: only at the end behind
    rw [bst_l] at hbw
    rw [bst_r] at h1u
    have k1 : fA (j + 1) * y ≤ x * fB (j + 1) := fr_le_tr p1.2 (show 0 < B (fp j).toNat - B u by omega) hy h1u hbw
    have k2 : (A u - A (fp j).toNat) * fB (j + 1) ≤ fA (j + 1) * (B (fp j).toNat - B u) := fr_le_tr (show 0 < B (fp j).toNat - B u by omega) hy p1.2 hbw g2
    have k3 : bstAt A B n u (fA (j + 1)) (fB (j + 1)) := by
      intro q hqn
      have := bst_l.mpr k2
      have := s1 q hqn
      omega
    exact ⟨j + 1, j + 1, by omega, by omega, k1, g2, k3, k3⟩
  · have hA : A u = A (fp j).toNat := by
      rw [hq] at hbw h0u
      have a1 : A u * y ≤ A (fp j).toNat * y := by omega
      have a2 : A (fp j).toNat * fB j ≤ A u * fB j := by omega
      have := Int.le_of_mul_le_mul_right a1 hy
      have := Int.le_of_mul_le_mul_right a2 p0.2
      omega
    exact ⟨j, j + 1, by omega, by omega, g1, g2, same_line hA hq s0, same_line hA hq s1⟩
  · rw [bst_r] at hbw
    rw [bst_l] at h0u
    have k1 : x * fB j ≤ fA j * y := fr_le_tr hy (show 0 < B u - B (fp j).toNat by omega) p0.2 hbw h0u
    have k2 : fA j * (B u - B (fp j).toNat) ≤ (A (fp j).toNat - A u) * fB j := fr_le_tr p0.2 hy (show 0 < B u - B (fp j).toNat by omega) g1 hbw
    have k3 : bstAt A B n u (fA j) (fB j) := by
      intro q hqn
      have := bst_r.mpr k2
      have := s0 q hqn
      omega
    exact ⟨j, j, by omega, by omega, g1, k1, k3, k3⟩
/-- the class looks for an end at which the plan's sum is the best one's -/
theorem pc_end {A B : Nat → Int} {n c : Nat} {T : Int} {fp fA fB : Nat → Int} (hT : 1 ≤ T) (h : PCE A B n c T fp fA fB) {i : Nat} (hi : i ≤ c) : (fp (min i (c - 1))).toNat < n ∧ bstAt A B n (fp (min i (c - 1))).toNat (fA i) (fB i) := by
  have hc := h.2.1
  rcases Nat.lt_or_ge i c with hq | hq
  · rw [show min i (c - 1) = i by omega]; exact ⟨(pc_w h hq).1, pc_start h hq⟩
  · have e : i = c - 1 + 1 := by omega
    rw [show min i (c - 1) = c - 1 by omega]
    refine ⟨(pc_w h (show c - 1 < c by omega)).1, ?_⟩
    have := (pc_next hT h (show c - 1 < c by omega)).1
    rw [← e] at this; exact this
theorem tch_iff {κ ρ : AS} {n c : Nat} {sg T : Int} (hs : sg = 1 ∨ sg = -1) (hT : 1 ≤ T) (h : PCE (fun q => sg * κ 2 q) (fun q => sg * κ 3 q) n c T (ρ 1) (ρ 2) (ρ 3)) {u i : Nat} (hu : u < n) (hi : i ≤ c) : κ 2 u * ρ 3 i + κ 3 u * ρ 2 i = bsum (κ 2) (κ 3) (ρ 1) (ρ 2) (ρ 3) c i ↔ bstAt (fun q => sg * κ 2 q) (fun q => sg * κ 3 q) n u (ρ 2 i) (ρ 3 i) := by
  obtain ⟨hw, hb⟩ := pc_end hT h hi
  unfold bsum
  generalize (ρ 1 (min i (c - 1))).toNat = w at hw hb ⊢
  have turn : ∀ q, sg * κ 2 q * ρ 3 i + sg * κ 3 q * ρ 2 i = sg * (κ 2 q * ρ 3 i + κ 3 q * ρ 2 i) := fun q => by rw [Int.mul_add, Int.mul_assoc, Int.mul_assoc]
  constructor
  · intro e q hq
    have h1 := hb q hq
    show sg * κ 2 u * ρ 3 i + sg * κ 3 u * ρ 2 i ≤ _
    rw [turn, e, ← turn]
    exact h1
  · intro hbu
    have h1 : sg * κ 2 u * ρ 3 i + sg * κ 3 u * ρ 2 i ≤ sg * κ 2 w * ρ 3 i + sg * κ 3 w * ρ 2 i := hbu w hw
    have h2 : sg * κ 2 w * ρ 3 i + sg * κ 3 w * ρ 2 i ≤ sg * κ 2 u * ρ 3 i + sg * κ 3 u * ρ 2 i := hb u hu
    rw [turn, turn] at h1 h2
    rcases hs with rfl | rfl <;> omega
theorem now_iff {κ ρ : AS} {n c : Nat} {sg T : Int} (hs : sg = 1 ∨ sg = -1) (hT : 1 ≤ T) (h : PCE (fun q => sg * κ 2 q) (fun q => sg * κ 3 q) n c T (ρ 1) (ρ 2) (ρ 3)) {u : Nat} (hu : u < n) : nowR (fun q => sg * κ 2 q) (fun q => sg * κ 3 q) n T u ↔ ∀ i : Nat, i < c + 1 → ¬ (κ 2 u * ρ 3 i + κ 3 u * ρ 2 i = bsum (κ 2) (κ 3) (ρ 1) (ρ 2) (ρ 3) c i) := by
  constructor
  · intro hn i hi e
    have hb := pc_b hT h (show i ≤ c by omega)
    exact hn (ρ 2 i) (ρ 3 i) hb.2 hb.1 (pc_T hT h (by omega)) ((tch_iff hs hT h hu (by omega)).mp e)
  · intro hn x y hy hx hxT hb
    obtain ⟨i, i', hi, hi', g1, g2, b1, b2⟩ := pc_touch hT h hu hy hx hxT hb
    exact hn i (by omega) ((tch_iff hs hT h hu hi).mpr b1)
theorem span_from {κ ρ : AS} {n c : Nat} {sg T : Int} (hs : sg = 1 ∨ sg = -1) (hT : 1 ≤ T) (h : PCE (fun q => sg * κ 2 q) (fun q => sg * κ 3 q) n c T (ρ 1) (ρ 2) (ρ 3)) {u e : Nat} (hu : u < n) (he : e ≤ c) (ht : κ 2 u * ρ 3 e + κ 3 u * ρ 2 e = bsum (κ 2) (κ 3) (ρ 1) (ρ 2) (ρ 3) c e) (hf : ∀ j : Nat, j < e → ¬ (κ 2 u * ρ 3 j + κ 3 u * ρ 2 j = bsum (κ 2) (κ 3) (ρ 1) (ρ 2) (ρ 3) c j)) {a b c1 d1 : Int} (hsp : SPR (fun q => sg * κ 2 q) (fun q => sg * κ 3 q) n T u a b c1 d1) : a * ρ 3 e = ρ 2 e * b := by
  obtain ⟨⟨q1, q2, q3, q4, q5⟩, q6, q7, q8⟩ := hsp
  have hbe := pc_b hT h he
  have haT : a ≤ T * b := by
    have := fr_le_tr (x := T) (y := 1) q1 q3 (by omega) q5 (by omega)
    omega
  obtain ⟨i, i', hi, hi', g1, g2, b1, b2⟩ := pc_touch hT h hu q1 q2 haT q6
  have hei : e ≤ i := by
    rcases Nat.lt_or_ge i e with hq | hq
    · exact absurd ((tch_iff hs hT h hu hi).mpr b1) (hf i hq)
    · exact hq
  have m1 := pc_mono hT h i hei hi
  have m2 := fr_le_tr hbe.2 (pc_b hT h hi).2 q1 m1 g1
  have m3 := (q8 (ρ 2 e) (ρ 3 e) hbe.2 hbe.1 (pc_T hT h he) ((tch_iff hs hT h hu he).mp ht)).1
  omega
theorem span_to {κ ρ : AS} {n c : Nat} {sg T : Int} (hs : sg = 1 ∨ sg = -1) (hT : 1 ≤ T) (h : PCE (fun q => sg * κ 2 q) (fun q => sg * κ 3 q) n c T (ρ 1) (ρ 2) (ρ 3)) {u e : Nat} (hu : u < n) (he : e ≤ c) (ht : κ 2 u * ρ 3 e + κ 3 u * ρ 2 e = bsum (κ 2) (κ 3) (ρ 1) (ρ 2) (ρ 3) c e) (hf : ∀ j : Nat, e < j → j ≤ c → ¬ (κ 2 u * ρ 3 j + κ 3 u * ρ 2 j = bsum (κ 2) (κ 3) (ρ 1) (ρ 2) (ρ 3) c j)) {a b c1 d1 : Int} (hsp : SPR (fun q => sg * κ 2 q) (fun q => sg * κ 3 q) n T u a b c1 d1) : 0 ≤ c1 ∧ c1 * ρ 3 e = ρ 2 e * d1 := by
  obtain ⟨⟨q1, q2, q3, q4, q5⟩, q6, q7, q8⟩ := hsp
  have hbe := pc_b hT h he
  have hc0 : 0 ≤ c1 := by
    rcases Int.lt_or_le c1 0 with hq | hq
    · exfalso
      have e1 : 0 ≤ a * d1 := Int.mul_nonneg q2 (by omega)
      have e2 : c1 * b < 0 := Int.mul_neg_of_neg_of_pos hq q1
      omega
    · exact hq
  obtain ⟨i, i', hi, hi', g1, g2, b1, b2⟩ := pc_touch hT h hu q3 hc0 q4 q7
  have hei : i' ≤ e := by
    rcases Nat.lt_or_ge e i' with hq | hq
    · exact absurd ((tch_iff hs hT h hu hi').mpr b2) (hf i' hq hi')
    · exact hq
  have m1 := pc_mono hT h e hei he
  have m2 := fr_le_tr q3 (pc_b hT h hi').2 hbe.2 g2 m1
  have m3 := (q8 (ρ 2 e) (ρ 3 e) hbe.2 hbe.1 (pc_T hT h he) ((tch_iff hs hT h hu he).mp ht)).2
  exact ⟨hc0, by omega⟩
/-! fractions that are alike have one form in lowest terms -/
theorem rd_nat {X Y Z W : Nat} (hY : 0 < Y) (hW : 0 < W) (h : X * W = Z * Y) : X / Nat.gcd X Y = Z / Nat.gcd Z W ∧ Y / Nat.gcd X Y = W / Nat.gcd Z W := by
  have g1 := Nat.gcd_mul_right X W Y
  have g2 := Nat.gcd_mul_right Z Y W
  constructor
  · rw [← Nat.mul_div_mul_right X (Nat.gcd X Y) hW, ← Nat.mul_div_mul_right Z (Nat.gcd Z W) hY, ← g1, ← g2, h, Nat.mul_comm Y W]
  · rw [← Nat.mul_div_mul_right Y (Nat.gcd X Y) hW, ← Nat.mul_div_mul_right W (Nat.gcd Z W) hY, ← g1, ← g2, h, Nat.mul_comm Y W]
theorem rd_cast (X Y : Nat) : rdA (X : Int) (Y : Int) = ((X / Nat.gcd X Y : Nat) : Int) ∧ rdB (X : Int) (Y : Int) = ((Y / Nat.gcd X Y : Nat) : Int) := by
  unfold rdA rdB gI
  rw [Int.natAbs_natCast, Int.natAbs_natCast]
  exact ⟨rfl, rfl⟩
theorem tl_eq {σ : AS} {a b c d : Int} (ha : 0 ≤ a) (hb : 0 < b) (hc : 0 ≤ c) (hd : 0 < d) (h : a * d = c * b) : tl σ a b = tl σ c d := by
  obtain ⟨X, rfl⟩ := Int.eq_ofNat_of_zero_le ha
  obtain ⟨Y, rfl⟩ := Int.eq_ofNat_of_zero_le (Int.le_of_lt hb)
  obtain ⟨Z, rfl⟩ := Int.eq_ofNat_of_zero_le hc
  obtain ⟨W, rfl⟩ := Int.eq_ofNat_of_zero_le (Int.le_of_lt hd)
  have h2 : X * W = Z * Y := by
    have : ((X * W : Nat) : Int) = ((Z * Y : Nat) : Int) := by rw [Int.natCast_mul, Int.natCast_mul]; exact h
    omega
  have r := rd_nat (show 0 < Y by omega) (show 0 < W by omega) h2
  unfold tl
  rw [(rd_cast X Y).1, (rd_cast X Y).2, (rd_cast Z W).1, (rd_cast Z W).2, r.1, r.2]
theorem cnw_congr {P Q : Nat → Prop} [DecidablePred P] [DecidablePred Q] : ∀ {n : Nat}, (∀ j : Nat, j < n → (P j ↔ Q j)) → cnw P n = cnw Q n := by
  intro n
  induction n with
  | zero => intro _; rfl
  | succ n ih =>
    intro h
    have e := ih (fun j hj => h j (by omega))
    have h1 := h n (by omega)
    rw [show cnw P (n + 1) = if P n then cnw P n + 1 else cnw P n from rfl, show cnw Q (n + 1) = if Q n then cnw Q n + 1 else cnw Q n from rfl, e]
    by_cases hq : Q n
    · rw [if_pos hq, if_pos (h1.mpr hq)]
    · rw [if_neg hq, if_neg (fun q => hq (h1.mp q))]
theorem CP_PCE {σ κ ρ : AS} {n c : Nat} {sg : Int} (h : CP σ κ ρ n c sg) (h0 : 0 < n) : PCE (fun q => sg * κ 2 q) (fun q => sg * κ 3 q) n c (σ 0 0) (ρ 1) (ρ 2) (ρ 3) := by
  rcases h with ⟨e, _⟩ | ⟨g0, g1, g2, g3, g4, g5, g6, g7⟩
  · omega
  · exact ⟨g0, g1, g3, g4, g5, g6, g7⟩
theorem bst_congr {A B A' B' : Nat → Int} {n u : Nat} {x y : Int} (h : ∀ j : Nat, j < n → A j = A' j ∧ B j = B' j) (hu : u < n) : bstAt A B n u x y ↔ bstAt A' B' n u x y := by
  constructor
  · intro hb j hj; rw [← (h u hu).1, ← (h u hu).2, ← (h j hj).1, ← (h j hj).2]; exact hb j hj
  · intro hb j hj; rw [(h u hu).1, (h u hu).2, (h j hj).1, (h j hj).2]; exact hb j hj
theorem now_congr {A B A' B' : Nat → Int} {n u : Nat} {T : Int} (h : ∀ j : Nat, j < n → A j = A' j ∧ B j = B' j) (hu : u < n) : nowR A B n T u ↔ nowR A' B' n T u :=
  ⟨fun hn x y a b c d => hn x y a b c ((bst_congr h hu).mpr d), fun hn x y a b c d => hn x y a b c ((bst_congr h hu).mp d)⟩
theorem spr_congr {A B A' B' : Nat → Int} {n u : Nat} {T a b c d : Int} (h : ∀ j : Nat, j < n → A j = A' j ∧ B j = B' j) (hu : u < n) (hs : SPR A B n T u a b c d) : SPR A' B' n T u a b c d :=
  ⟨hs.1, (bst_congr h hu).mp hs.2.1, (bst_congr h hu).mp hs.2.2.1, fun x y p q r s => hs.2.2.2 x y p q r ((bst_congr h hu).mpr s)⟩
