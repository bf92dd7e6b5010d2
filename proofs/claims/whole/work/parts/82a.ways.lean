/-! ways: what the class lists is what the reference lets fit -/
theorem fm_mem {F : Nat → List Nat} {x : Nat} : ∀ {n : Nat}, x ∈ fm F n ↔ ∃ i, i < n ∧ x ∈ F i := by
  intro n
  induction n with
  | zero =>
    constructor
    · intro h; exact absurd h List.not_mem_nil
    · rintro ⟨i, hi, _⟩; omega
  | succ n ih =>
    rw [show fm F (n + 1) = fm F n ++ F n from rfl, List.mem_append, ih]
    constructor
    · rintro (⟨i, hi, h⟩ | h)
      · exact ⟨i, by omega, h⟩
      · exact ⟨n, by omega, h⟩
    · rintro ⟨i, hi, h⟩
      by_cases e : i = n
      · subst e; exact Or.inr h
      · exact Or.inl ⟨i, by omega, h⟩
theorem fm_nodup {F : Nat → List Nat} : ∀ {n : Nat}, (∀ i, i < n → (F i).Nodup) → (∀ i j x, i < j → j < n → x ∈ F i → x ∈ F j → False) → (fm F n).Nodup := by
  intro n
  induction n with
  | zero => intro _ _; exact List.nodup_nil
  | succ n ih =>
    intro h1 h2
    rw [show fm F (n + 1) = fm F n ++ F n from rfl, List.nodup_append]
    refine ⟨ih (fun i hi => h1 i (by omega)) (fun i j x a b => h2 i j x a (by omega)), h1 n (by omega), ?_⟩
    intro a ha b hb e
    subst e
    obtain ⟨i, hi, h⟩ := fm_mem.mp ha
    exact h2 i n a hi (by omega) h hb
theorem wnx_spec {lf : Nat → Int} {a left : Nat} : ∀ {n : Nat}, wnx lf a left n ≠ -1 → ∃ l : Nat, l < n ∧ wnx lf a left n = (l : Int) ∧ left.testBit l = true ∧ lf l = (a : Int) := by
  intro n
  induction n with
  | zero => intro h; exact absurd rfl h
  | succ n ih =>
    intro h
    rw [show wnx lf a left (n + 1) = if left.testBit n = true ∧ lf n = (a : Int) then (n : Int) else wnx lf a left n from rfl] at h ⊢
    by_cases h1 : left.testBit n = true ∧ lf n = (a : Int)
    · rw [if_pos h1]; exact ⟨n, by omega, rfl, h1.1, h1.2⟩
    · rw [if_neg h1] at h ⊢
      obtain ⟨l, hl, h2⟩ := ih h
      exact ⟨l, by omega, h2⟩
theorem wnx_one {lf : Nat → Int} {a left l : Nat} (h1 : left.testBit l = true) (h2 : lf l = (a : Int)) (h3 : ∀ i, left.testBit i = true → lf i = (a : Int) → i = l) : ∀ {n : Nat}, l < n → wnx lf a left n = (l : Int) := by
  intro n
  induction n with
  | zero => intro h; omega
  | succ n ih =>
    intro h
    rw [show wnx lf a left (n + 1) = if left.testBit n = true ∧ lf n = (a : Int) then (n : Int) else wnx lf a left n from rfl]
    by_cases hh : left.testBit n = true ∧ lf n = (a : Int)
    · rw [if_pos hh, h3 n hh.1 hh.2]
    · rw [if_neg hh]
      by_cases e : l = n
      · subst e; exact absurd ⟨h1, h2⟩ hh
      · exact ih (by omega)
theorem wy_step {nl : Nat} {lf lt : Nat → Int} {d a met left : Nat} (h5 : a ≠ 5) (h : wyF nl lf lt (d + 1) a met left = true) : ∃ l : Nat, l < nl ∧ left.testBit l = true ∧ lf l = (a : Int) ∧ met.testBit (lt l).toNat = false ∧ wyF nl lf lt d (lt l).toNat (met ||| 2 ^ (lt l).toNat) (sdiff left (2 ^ l)) = true := by
  by_cases hn : wnx lf a left nl = -1 ∨ met.testBit (lt (wnx lf a left nl).toNat).toNat = true
  · rw [wy_no h5 hn] at h; cases h
  · have hn1 : wnx lf a left nl ≠ -1 := fun hh => hn (Or.inl hh)
    obtain ⟨l, hl, e, hb, hf⟩ := wnx_spec hn1
    rw [e, Int.toNat_natCast] at hn
    have h2 := wy_go (d := d + 1) (nl := nl) (lf := lf) (lt := lt) (met := met) (Nat.succ_pos d) e.symm h5 (by omega) (by rw [Int.toNat_natCast]; exact fun hh => hn (Or.inr hh))
    rw [h2, Int.toNat_natCast] at h
    refine ⟨l, hl, hb, hf, ?_, h⟩
    cases hh : met.testBit (lt l).toNat
    · rfl
    · exact absurd (Or.inr hh) hn
theorem wy_mk {nl : Nat} {lf lt : Nat → Int} {d a met left l : Nat} (h5 : a ≠ 5) (hl : l < nl) (hb : left.testBit l = true) (hf : lf l = (a : Int)) (hu : ∀ i, left.testBit i = true → lf i = (a : Int) → i = l) (hm : met.testBit (lt l).toNat = false) (h : wyF nl lf lt d (lt l).toNat (met ||| 2 ^ (lt l).toNat) (sdiff left (2 ^ l)) = true) : wyF nl lf lt (d + 1) a met left = true := by
  have e := wnx_one hb hf hu hl
  have h2 := wy_go (d := d + 1) (nl := nl) (lf := lf) (lt := lt) (met := met) (Nat.succ_pos d) e.symm h5 (by omega) (by rw [Int.toNat_natCast, hm]; decide)
  rw [h2, Int.toNat_natCast]
  exact h
theorem wy_in {nl : Nat} {lf lt : Nat → Int} : ∀ (d a met left : Nat), wyF nl lf lt d a met left = true → ∀ i, left.testBit i = true → i < nl ∧ (lf i = (a : Int) ∨ met.testBit (lf i).toNat = false) := by
  intro d
  induction d with
  | zero => intro a met left h; cases h
  | succ d ih =>
    intro a met left h i hi
    by_cases h5 : a = 5
    · rw [wy_5 (by omega) h5] at h
      have h0 : left = 0 := of_decide_eq_true h
      rw [h0, Nat.zero_testBit] at hi; cases hi
    · obtain ⟨l, hl, hb, hf, hm, h2⟩ := wy_step h5 h
      by_cases ei : i = l
      · subst ei; exact ⟨hl, Or.inl hf⟩
      · have hi2 : (sdiff left (2 ^ l)).testBit i = true := by
          rw [sdiff_tb, hi, Nat.testBit_two_pow, decide_eq_false (fun hh => ei hh.symm)]; rfl
        obtain ⟨g1, g2⟩ := ih _ _ _ h2 i hi2
        refine ⟨g1, Or.inr ?_⟩
        rcases g2 with g2 | g2
        · rw [g2, Int.toNat_natCast]; exact hm
        · rw [Nat.testBit_or] at g2
          cases hh : met.testBit (lf i).toNat
          · rfl
          · rw [hh] at g2; cases g2
theorem or_sd {left l : Nat} (h : left.testBit l = true) : 2 ^ l ||| sdiff left (2 ^ l) = left := by
  apply Nat.eq_of_testBit_eq
  intro i
  rw [Nat.testBit_or, sdiff_tb, Nat.testBit_two_pow]
  by_cases e : l = i
  · subst e; rw [h]; simp
  · rw [decide_eq_false e]; simp
theorem wy_wk {nl : Nat} {lf lt : Nat → Int} (hlt : ∀ j : Nat, j < nl → 0 ≤ lt j ∧ lt j ≤ 5) : ∀ (d a met left way : Nat), a ≠ 5 → wyF nl lf lt (d + 1) a met left = true → (way ||| left) ∈ wk nl lf lt d a met way := by
  intro d
  induction d with
  | zero =>
    intro a met left way h5 h
    obtain ⟨l, hl, hb, hf, hm, h2⟩ := wy_step h5 h
    cases h2
  | succ d ih =>
    intro a met left way h5 h
    obtain ⟨l, hl, hb, hf, hm, h2⟩ := wy_step h5 h
    rw [wk_F, fm_mem]
    refine ⟨l, hl, ?_⟩
    have hs : ¬ (lf l ≠ (a : Int) ∨ met.testBit (lt l).toNat = true) := fun hh => hh.elim (fun q => q hf) (fun q => by rw [hm] at q; cases q)
    unfold wkF
    rw [if_neg hs]
    have hor := or_sd hb
    by_cases hg : lt l = 5
    · rw [if_pos hg]
      rw [wy_5 (by omega) (by rw [hg]; rfl)] at h2
      have h0 : sdiff left (2 ^ l) = 0 := of_decide_eq_true h2
      rw [h0, Nat.or_zero] at hor
      rw [hor]; exact List.mem_singleton.mpr rfl
    · rw [if_neg hg]
      have h6 : (lt l).toNat ≠ 5 := by have := hlt l hl; omega
      have h7 := ih (lt l).toNat _ _ (way ||| 2 ^ l) h6 h2
      rw [Nat.or_assoc, hor] at h7
      exact h7
/-- what a set that goes on along link i is made of -/
theorem wkF_wy {nl : Nat} {lf lt : Nat → Int} {d a met way i x : Nat} (ih : ∀ (a met way x : Nat), a ≠ 5 → met.testBit a = true → x ∈ wk nl lf lt d a met way → ∃ left, x = way ||| left ∧ wyF nl lf lt (d + 1) a met left = true) (hlt : ∀ j : Nat, j < nl → 0 ≤ lt j ∧ lt j ≤ 5) (hi : i < nl) (ha : met.testBit a = true) (hx : x ∈ wkF nl lf lt d a met way i) : lf i = (a : Int) ∧ met.testBit (lt i).toNat = false ∧ ∃ left, x = (way ||| 2 ^ i) ||| left ∧ wyF nl lf lt (d + 1) (lt i).toNat (met ||| 2 ^ (lt i).toNat) left = true ∧ ∀ j, left.testBit j = true → lf j ≠ (a : Int) := by
  unfold wkF at hx
  by_cases hs : lf i ≠ (a : Int) ∨ met.testBit (lt i).toNat = true
  · rw [if_pos hs] at hx; exact absurd hx List.not_mem_nil
  · rw [if_neg hs] at hx
    have hf : lf i = (a : Int) := Classical.byContradiction (fun hh => hs (Or.inl hh))
    have hm : met.testBit (lt i).toNat = false := by
      cases hh : met.testBit (lt i).toNat
      · rfl
      · exact absurd (Or.inr hh) hs
    refine ⟨hf, hm, ?_⟩
    by_cases hg : lt i = 5
    · rw [if_pos hg] at hx
      refine ⟨0, ?_, ?_, ?_⟩
      · rw [List.mem_singleton.mp hx, Nat.or_zero]
      · rw [wy_5 (by omega) (by rw [hg]; rfl)]; rfl
      · intro j hj; rw [Nat.zero_testBit] at hj; cases hj
    · rw [if_neg hg] at hx
      have h6 : (lt i).toNat ≠ 5 := by have := hlt i hi; omega
      obtain ⟨left, e, h⟩ := ih _ _ _ _ h6 (by rw [Nat.testBit_or, Nat.testBit_two_pow_self, Bool.or_true]) hx
      refine ⟨left, e, h, fun j hj hfa => ?_⟩
      have h8 := (wy_in _ _ _ _ h j hj).2
      rw [hfa, Int.toNat_natCast, Nat.testBit_or, ha, Bool.true_or] at h8
      rcases h8 with h8 | h8
      · have h9 : a = (lt i).toNat := by omega
        rw [← h9, ha] at hm; cases hm
      · cases h8
theorem wk_wy {nl : Nat} {lf lt : Nat → Int} (hlt : ∀ j : Nat, j < nl → 0 ≤ lt j ∧ lt j ≤ 5) : ∀ (d a met way x : Nat), a ≠ 5 → met.testBit a = true → x ∈ wk nl lf lt d a met way → ∃ left, x = way ||| left ∧ wyF nl lf lt (d + 1) a met left = true := by
  intro d
  induction d with
  | zero => intro a met way x _ _ hx; exact absurd hx List.not_mem_nil
  | succ d ih =>
    intro a met way x h5 ha hx
    rw [wk_F, fm_mem] at hx
    obtain ⟨i, hi, hx⟩ := hx
    obtain ⟨hf, hm, left, e, h, hn⟩ := wkF_wy ih hlt hi ha hx
    have hni : left.testBit i = false := by
      cases hh : left.testBit i
      · rfl
      · exact absurd hf (hn i hh)
    refine ⟨2 ^ i ||| left, by rw [e, Nat.or_assoc], wy_mk h5 hi ?_ hf ?_ hm ?_⟩
    · rw [Nat.testBit_or, Nat.testBit_two_pow_self, Bool.true_or]
    · intro j hj hfa
      rw [Nat.testBit_or, Nat.testBit_two_pow] at hj
      by_cases ej : i = j
      · exact ej.symm
      · rw [decide_eq_false ej, Bool.false_or] at hj
        exact absurd hfa (hn j hj)
    · have e2 : sdiff (2 ^ i ||| left) (2 ^ i) = left := by
        apply Nat.eq_of_testBit_eq
        intro j
        rw [sdiff_tb, Nat.testBit_or, Nat.testBit_two_pow]
        by_cases ej : i = j
        · subst ej; rw [hni]; simp
        · rw [decide_eq_false ej]; simp
      rw [e2]; exact h
theorem wk_nodup {nl : Nat} {lf lt : Nat → Int} (hlt : ∀ j : Nat, j < nl → 0 ≤ lt j ∧ lt j ≤ 5) : ∀ (d a met way : Nat), a ≠ 5 → met.testBit a = true → (∀ i, way.testBit i = true → lf i ≠ (a : Int) ∧ met.testBit (lf i).toNat = true) → (wk nl lf lt d a met way).Nodup := by
  intro d
  induction d with
  | zero => intro a met way _ _ _; exact List.nodup_nil
  | succ d ih =>
    intro a met way h5 ha hw
    rw [wk_F]
    refine fm_nodup (fun i hi => ?_) (fun i j x hij hj h1 h2 => ?_)
    · unfold wkF
      by_cases hs : lf i ≠ (a : Int) ∨ met.testBit (lt i).toNat = true
      · rw [if_pos hs]; exact List.nodup_nil
      · rw [if_neg hs]
        by_cases hg : lt i = 5
        · rw [if_pos hg]; exact List.nodup_cons.mpr ⟨List.not_mem_nil, List.nodup_nil⟩
        · rw [if_neg hg]
          have hf : lf i = (a : Int) := Classical.byContradiction (fun hh => hs (Or.inl hh))
          have hm : met.testBit (lt i).toNat = false := by
            cases hh : met.testBit (lt i).toNat
            · rfl
            · exact absurd (Or.inr hh) hs
          have h6 : (lt i).toNat ≠ 5 := by have := hlt i hi; omega
          refine ih _ _ _ h6 (by rw [Nat.testBit_or, Nat.testBit_two_pow_self, Bool.or_true]) (fun j hj => ?_)
          rw [Nat.testBit_or, Nat.testBit_two_pow] at hj
          by_cases ej : i = j
          · subst ej
            rw [hf]
            refine ⟨fun hh => ?_, by rw [Int.toNat_natCast, Nat.testBit_or, ha, Bool.true_or]⟩
            have h9 : a = (lt i).toNat := by omega
            rw [← h9, ha] at hm; cases hm
          · rw [decide_eq_false ej, Bool.or_false] at hj
            obtain ⟨w1, w2⟩ := hw j hj
            refine ⟨fun hh => ?_, by rw [Nat.testBit_or, w2, Bool.true_or]⟩
            rw [hh, Int.toNat_natCast, hm] at w2; cases w2
    · have ihw := wk_wy (lf := lf) hlt d
      obtain ⟨f1, m1, l1, e1, y1, n1⟩ := wkF_wy (fun a met way x p q r => ihw a met way x p q r) hlt (show i < nl by omega) ha h1
      obtain ⟨f2, m2, l2, e2, y2, n2⟩ := wkF_wy (fun a met way x p q r => ihw a met way x p q r) hlt hj ha h2
      have hb : x.testBit j = true := by rw [e2, Nat.testBit_or, Nat.testBit_or, Nat.testBit_two_pow_self]; simp
      rw [e1, Nat.testBit_or, Nat.testBit_or, Nat.testBit_two_pow, decide_eq_false (show ¬ i = j by omega), Bool.or_false] at hb
      cases hw1 : way.testBit j
      · rw [hw1, Bool.false_or] at hb
        exact n1 j hb f2
      · exact (hw j hw1).1 f2
theorem ways_mem {nl : Nat} {lf lt : Nat → Int} (hlt : ∀ j : Nat, j < nl → 0 ≤ lt j ∧ lt j ≤ 5) (x : Nat) : x ∈ wk nl lf lt 5 0 1 0 ↔ x < 2 ^ nl ∧ wyF nl lf lt 6 0 1 x = true := by
  constructor
  · intro h
    obtain ⟨left, e, h2⟩ := wk_wy hlt 5 0 1 0 x (by decide) (by decide) h
    rw [Nat.zero_or] at e
    subst e
    refine ⟨Nat.lt_pow_two_of_testBit _ (fun i hi => ?_), h2⟩
    cases hh : x.testBit i
    · rfl
    · have := (wy_in _ _ _ _ h2 i hh).1; omega
  · rintro ⟨_, h⟩
    have := wy_wk hlt 5 0 1 x 0 (by decide) h
    rw [Nat.zero_or] at this; exact this
theorem ways_nodup {nl : Nat} {lf lt : Nat → Int} (hlt : ∀ j : Nat, j < nl → 0 ≤ lt j ∧ lt j ≤ 5) : (wk nl lf lt 5 0 1 0).Nodup :=
  wk_nodup hlt 5 0 1 0 (by decide) (by decide) (fun i hi => by rw [Nat.zero_testBit] at hi; cases hi)
/-! how many ways there are -/
def dg (lf : Nat → Int) (a : Int) : Nat → Nat
  | 0 => 0
  | n + 1 => dg lf a n + (if lf n = a then 1 else 0)
theorem dg_sum (lf : Nat → Int) : ∀ n, dg lf 0 n + dg lf 1 n + dg lf 2 n + dg lf 3 n + dg lf 4 n ≤ n := by
  intro n
  induction n with
  | zero => exact Nat.le_refl 0
  | succ n ih =>
    simp only [dg]
    by_cases h0 : lf n = 0
    · rw [h0]; simp; omega
    · by_cases h1 : lf n = 1
      · rw [h1]; simp; omega
      · by_cases h2 : lf n = 2
        · rw [h2]; simp; omega
        · by_cases h3 : lf n = 3
          · rw [h3]; simp; omega
          · rw [if_neg h0, if_neg h1, if_neg h2, if_neg h3]
            split <;> omega
theorem fm_len_le {F : Nat → List Nat} {lf : Nat → Int} {a : Int} {M : Nat} : ∀ n, (∀ i, i < n → (F i).length ≤ if lf i = a then M else 0) → (fm F n).length ≤ dg lf a n * M := by
  intro n
  induction n with
  | zero => intro _; exact Nat.zero_le _
  | succ n ih =>
    intro h
    have h1 := ih (fun i hi => h i (by omega))
    have h2 := h n (by omega)
    rw [show fm F (n + 1) = fm F n ++ F n from rfl, List.length_append, show dg lf a (n + 1) = dg lf a n + (if lf n = a then 1 else 0) from rfl, Nat.add_mul]
    split at h2
    · rename_i hh; rw [if_pos hh, Nat.one_mul]; omega
    · rename_i hh; rw [if_neg hh, Nat.zero_mul]; omega
def wf (lf : Nat → Int) (nl met v : Nat) : Nat := if met.testBit v then 1 else max 1 (dg lf (v : Int) nl)
def wW (lf : Nat → Int) (nl met : Nat) : Nat := wf lf nl met 1 * (wf lf nl met 2 * (wf lf nl met 3 * wf lf nl met 4))
theorem wf_pos {lf : Nat → Int} {nl met v : Nat} : 1 ≤ wf lf nl met v := by unfold wf; split <;> omega
theorem wW_pos {lf : Nat → Int} {nl met : Nat} : 1 ≤ wW lf nl met := Nat.mul_pos wf_pos (Nat.mul_pos wf_pos (Nat.mul_pos wf_pos wf_pos))
theorem wf_in {lf : Nat → Int} {nl met v : Nat} : wf lf nl (met ||| 2 ^ v) v = 1 := by unfold wf; rw [if_pos (by rw [Nat.testBit_or, Nat.testBit_two_pow_self, Bool.or_true])]
theorem wf_ot {lf : Nat → Int} {nl met v u : Nat} (h : v ≠ u) : wf lf nl (met ||| 2 ^ v) u = wf lf nl met u := by unfold wf; rw [Nat.testBit_or, Nat.testBit_two_pow, decide_eq_false h, Bool.or_false]
theorem wf_out {lf : Nat → Int} {nl met v : Nat} (h : met.testBit v = false) : dg lf (v : Int) nl ≤ wf lf nl met v := by unfold wf; rw [h]; exact Nat.le_max_right _ _
theorem wW_step {lf : Nat → Int} {nl met v : Nat} (h : met.testBit v = false) (h1 : 1 ≤ v) (h4 : v ≤ 4) : dg lf (v : Int) nl * wW lf nl (met ||| 2 ^ v) ≤ wW lf nl met := by
  have hd := wf_out (lf := lf) (nl := nl) h
  unfold wW
  rcases (show v = 1 ∨ v = 2 ∨ v = 3 ∨ v = 4 by omega) with rfl | rfl | rfl | rfl
  · rw [wf_in, wf_ot (by decide), wf_ot (by decide), wf_ot (by decide), Nat.one_mul]
    exact Nat.mul_le_mul_right _ hd
  · rw [wf_in, wf_ot (by decide), wf_ot (by decide), wf_ot (by decide), Nat.one_mul, Nat.mul_left_comm]
    exact Nat.mul_le_mul_left _ (Nat.mul_le_mul_right _ hd)
  · rw [wf_in, wf_ot (by decide), wf_ot (by decide), wf_ot (by decide), Nat.one_mul, Nat.mul_left_comm, Nat.mul_left_comm (dg lf _ nl)]
    exact Nat.mul_le_mul_left _ (Nat.mul_le_mul_left _ (Nat.mul_le_mul_right _ hd))
  · rw [wf_in, wf_ot (by decide), wf_ot (by decide), wf_ot (by decide), Nat.mul_one, Nat.mul_left_comm, Nat.mul_left_comm (dg lf _ nl), Nat.mul_comm (dg lf _ nl)]
    exact Nat.mul_le_mul_left _ (Nat.mul_le_mul_left _ (Nat.mul_le_mul_left _ hd))
theorem wk_len {nl : Nat} {lf lt : Nat → Int} (hlt : ∀ j : Nat, j < nl → 0 ≤ lt j ∧ lt j ≤ 5) : ∀ (d a met way : Nat), met.testBit 0 = true → (wk nl lf lt d a met way).length ≤ dg lf (a : Int) nl * wW lf nl met := by
  intro d
  induction d with
  | zero => intro a met way _; exact Nat.zero_le _
  | succ d ih =>
    intro a met way h0
    rw [wk_F]
    refine fm_len_le nl (fun i hi => ?_)
    unfold wkF
    by_cases hf : lf i = (a : Int)
    · rw [if_pos hf]
      by_cases hm : met.testBit (lt i).toNat = true
      · rw [if_pos (Or.inr hm)]; exact Nat.zero_le _
      · rw [if_neg (fun hh => hh.elim (fun q => q hf) hm)]
        by_cases hg : lt i = 5
        · rw [if_pos hg]; exact wW_pos
        · rw [if_neg hg]
          have hb := hlt i hi
          have hz : (lt i).toNat ≠ 0 := fun hh => hm (by rw [hh]; exact h0)
          have hm2 : met.testBit (lt i).toNat = false := by
            cases hh : met.testBit (lt i).toNat
            · rfl
            · exact absurd hh hm
          exact Nat.le_trans (ih _ _ _ (by rw [Nat.testBit_or, h0, Bool.true_or])) (wW_step hm2 (by omega) (by omega))
    · rw [if_neg hf, if_pos (Or.inl hf)]; exact Nat.le_refl 0
theorem sqb {x y p q : Nat} (h1 : x * x ≤ 2 ^ p) (h2 : y * y ≤ 2 ^ q) : (x * y) * (x * y) ≤ 2 ^ (p + q) := by
  rw [Nat.mul_mul_mul_comm, Nat.pow_add]; exact Nat.mul_le_mul h1 h2
theorem sq_1 : ∀ d, d < 15 → max 1 d * max 1 d ≤ 2 ^ (d + 1) := by decide
theorem ways_len {nl : Nat} {lf lt : Nat → Int} (hnl : nl ≤ 14) (hlt : ∀ j : Nat, j < nl → 0 ≤ lt j ∧ lt j ≤ 5) : (wk nl lf lt 5 0 1 0).length ≤ 2002 := by
  have h1 := wk_len (lf := lf) hlt 5 0 1 0 (by decide)
  have hs := dg_sum lf nl
  have h0 : dg lf ((0 : Nat) : Int) nl ≤ max 1 (dg lf 0 nl) := Nat.le_max_right _ _
  have e : wW lf nl 1 = max 1 (dg lf 1 nl) * (max 1 (dg lf 2 nl) * (max 1 (dg lf 3 nl) * max 1 (dg lf 4 nl))) := rfl
  have h2 := Nat.mul_le_mul_right (wW lf nl 1) h0
  have h3 := sqb (sq_1 (dg lf 0 nl) (by omega)) (sqb (sq_1 (dg lf 1 nl) (by omega)) (sqb (sq_1 (dg lf 2 nl) (by omega)) (sqb (sq_1 (dg lf 3 nl) (by omega)) (sq_1 (dg lf 4 nl) (by omega)))))
  rw [← e] at h3
  have h4 : 2 ^ (dg lf 0 nl + 1 + (dg lf 1 nl + 1 + (dg lf 2 nl + 1 + (dg lf 3 nl + 1 + (dg lf 4 nl + 1))))) ≤ 2 ^ 19 := Nat.pow_le_pow_right (by decide) (by omega)
  generalize max 1 (dg lf 0 nl) * wW lf nl 1 = P at h2 h3
  have h5 : P ≤ 2002 := by
    rcases Nat.lt_or_ge 2002 P with hq | hq
    · have := Nat.mul_le_mul hq hq
      omega
    · exact hq
  omega
