/-! trees: in whatever order the links are taken, the same sets hang together -/
def mrg (f : Nat → Int) (a b : Nat) : Nat → Int := fun p => if f p = f b then f a else f p
def lb : List (Nat × Nat) → Nat → Int
  | [] => fun p => (p : Int)
  | e :: P => mrg (lb P) e.1 e.2
def okD : List (Nat × Nat) → Prop
  | [] => True
  | e :: P => okD P ∧ lb P e.1 ≠ lb P e.2
def conn (P : List (Nat × Nat)) (p q : Nat) : Prop := ∀ h : Nat → Int, (∀ e ∈ P, h e.1 = h e.2) → h p = h q
theorem lb_resp : ∀ (P : List (Nat × Nat)), ∀ e ∈ P, lb P e.1 = lb P e.2 := by
  intro P
  induction P with
  | nil => intro e he; exact absurd he List.not_mem_nil
  | cons x P ih =>
    intro e he
    show mrg (lb P) x.1 x.2 e.1 = mrg (lb P) x.1 x.2 e.2
    unfold mrg
    rcases List.mem_cons.mp he with rfl | he
    · rw [if_pos (rfl : lb P e.2 = lb P e.2)]
      split <;> rfl
    · rw [ih e he]
theorem lb_min : ∀ (P : List (Nat × Nat)) (h : Nat → Int), (∀ e ∈ P, h e.1 = h e.2) → ∀ p q, lb P p = lb P q → h p = h q := by
  intro P
  induction P with
  | nil =>
    intro h _ p q e
    have e2 : (p : Int) = (q : Int) := e
    rw [show p = q by omega]
  | cons x P ih =>
    intro h hr p q e
    have hx := hr x List.mem_cons_self
    have ih := ih h (fun e he => hr e (List.mem_cons_of_mem _ he))
    have e : (if lb P p = lb P x.2 then lb P x.1 else lb P p) = (if lb P q = lb P x.2 then lb P x.1 else lb P q) := e
    by_cases h1 : lb P p = lb P x.2
    · have g1 := ih _ _ h1
      by_cases h2 : lb P q = lb P x.2
      · have g2 := ih _ _ h2
        rw [g1, g2]
      · rw [if_pos h1, if_neg h2] at e
        have g2 := ih _ _ e
        rw [g1, ← hx, g2]
    · by_cases h2 : lb P q = lb P x.2
      · have g2 := ih _ _ h2
        rw [if_neg h1, if_pos h2] at e
        have g1 := ih _ _ e
        rw [g1, hx, g2]
      · rw [if_neg h1, if_neg h2] at e
        exact ih _ _ e
theorem lb_perm {P Q : List (Nat × Nat)} (h : P.Perm Q) (p q : Nat) : lb P p = lb P q ↔ lb Q p = lb Q q :=
  ⟨fun e => lb_min P (lb Q) (fun x hx => lb_resp Q x (h.mem_iff.mp hx)) p q e, fun e => lb_min Q (lb P) (fun x hx => lb_resp P x (h.mem_iff.mpr hx)) p q e⟩
theorem okD_swap (x y : Nat × Nat) (P : List (Nat × Nat)) : okD (y :: x :: P) → okD (x :: y :: P) := by
  rintro ⟨⟨h0, h1⟩, h2⟩
  have h2 : (if lb P y.1 = lb P x.2 then lb P x.1 else lb P y.1) ≠ (if lb P y.2 = lb P x.2 then lb P x.1 else lb P y.2) := h2
  have h3 : lb P y.1 ≠ lb P y.2 := by
    intro hh; rw [hh] at h2; exact h2 rfl
  refine ⟨⟨h0, h3⟩, ?_⟩
  show (if lb P x.1 = lb P y.2 then lb P y.1 else lb P x.1) ≠ (if lb P x.2 = lb P y.2 then lb P y.1 else lb P x.2)
  intro hh
  by_cases a1 : lb P x.1 = lb P y.2
  · by_cases a2 : lb P x.2 = lb P y.2
    · exact h1 (a1.trans a2.symm)
    · rw [if_pos a1, if_neg a2] at hh
      rw [if_pos hh, if_neg (fun q => a2 q.symm)] at h2
      exact h2 a1
  · by_cases a2 : lb P x.2 = lb P y.2
    · rw [if_neg a1, if_pos a2] at hh
      rw [if_pos a2.symm, if_neg (fun q => h1 (hh.trans q))] at h2
      exact h2 hh.symm
    · rw [if_neg a1, if_neg a2] at hh
      exact h1 hh
theorem okD_perm {P Q : List (Nat × Nat)} (h : P.Perm Q) : okD P ↔ okD Q := by
  induction h with
  | nil => exact Iff.rfl
  | cons x hp ih =>
    constructor
    · rintro ⟨h1, h2⟩; exact ⟨ih.mp h1, fun q => h2 ((lb_perm hp _ _).mpr q)⟩
    · rintro ⟨h1, h2⟩; exact ⟨ih.mpr h1, fun q => h2 ((lb_perm hp _ _).mp q)⟩
  | swap x y l => exact ⟨okD_swap x y l, okD_swap y x l⟩
  | trans _ _ i1 i2 => exact i1.trans i2
theorem okD_tail : ∀ (A B : List (Nat × Nat)), okD (A ++ B) → okD B := by
  intro A
  induction A with
  | nil => intro B h; exact h
  | cons x A ih => intro B h; exact ih B h.1
section TR
variable (lf lt : Nat → Int)
def ed (l : Nat) : Nat × Nat := ((lf l).toNat, (lt l).toNat)
def edR (S : Nat) : Nat → List (Nat × Nat)
  | 0 => []
  | l + 1 => if S.testBit l = true then ed lf lt l :: edR S l else edR S l
def edL (S : Nat) : Nat → List (Nat × Nat)
  | 0 => []
  | l + 1 => if S.testBit l = true then edL S l ++ [ed lf lt l] else edL S l
end TR
theorem lab_lb {lf lt : Nat → Int} {S : Nat} : ∀ l p, lab lf lt S l p = lb (edR lf lt S l) p := by
  intro l
  induction l with
  | zero => intro p; rfl
  | succ l ih =>
    intro p
    rw [show lab lf lt S (l + 1) p = if S.testBit l = true ∧ lab lf lt S l p = lab lf lt S l (lt l).toNat then lab lf lt S l (lf l).toNat else lab lf lt S l p from rfl, show edR lf lt S (l + 1) = if S.testBit l = true then ed lf lt l :: edR lf lt S l else edR lf lt S l from rfl]
    by_cases hb : S.testBit l = true
    · rw [if_pos hb]
      show _ = if lb (edR lf lt S l) p = lb (edR lf lt S l) (lt l).toNat then lb (edR lf lt S l) (lf l).toNat else lb (edR lf lt S l) p
      rw [← ih, ← ih, ← ih]
      by_cases hc : lab lf lt S l p = lab lf lt S l (lt l).toNat
      · rw [if_pos ⟨hb, hc⟩, if_pos hc]
      · rw [if_neg (fun q => hc q.2), if_neg hc]
    · rw [if_neg hb, if_neg (fun q => hb q.1)]
      exact ih p
theorem okT_okD {lf lt : Nat → Int} {S : Nat} : ∀ l, okT lf lt S l = true ↔ okD (edR lf lt S l) := by
  intro l
  induction l with
  | zero => exact ⟨fun _ => trivial, fun _ => rfl⟩
  | succ l ih =>
    rw [show okT lf lt S (l + 1) = (okT lf lt S l && decide (¬ (S.testBit l = true ∧ lab lf lt S l (lf l).toNat = lab lf lt S l (lt l).toNat))) from rfl, show edR lf lt S (l + 1) = if S.testBit l = true then ed lf lt l :: edR lf lt S l else edR lf lt S l from rfl, Bool.and_eq_true, ih, decide_eq_true_iff, lab_lb, lab_lb]
    by_cases hb : S.testBit l = true
    · rw [if_pos hb]
      exact ⟨fun h => ⟨h.1, fun q => h.2 ⟨hb, q⟩⟩, fun h => ⟨h.1, fun q => h.2 q.2⟩⟩
    · rw [if_neg hb]
      exact ⟨fun h => h.1, fun h => ⟨h, fun q => hb q.1⟩⟩
theorem edL_perm {lf lt : Nat → Int} {S : Nat} : ∀ l, (edL lf lt S l).Perm (edR lf lt S l) := by
  intro l
  induction l with
  | zero => exact List.Perm.refl _
  | succ l ih =>
    rw [show edL lf lt S (l + 1) = if S.testBit l = true then edL lf lt S l ++ [ed lf lt l] else edL lf lt S l from rfl, show edR lf lt S (l + 1) = if S.testBit l = true then ed lf lt l :: edR lf lt S l else edR lf lt S l from rfl]
    by_cases hb : S.testBit l = true
    · rw [if_pos hb, if_pos hb]
      exact List.perm_append_comm.trans (List.Perm.cons _ ih)
    · rw [if_neg hb, if_neg hb]; exact ih
theorem edL_congr {lf lt : Nat → Int} {S T : Nat} : ∀ l, (∀ i, i < l → S.testBit i = T.testBit i) → edL lf lt S l = edL lf lt T l := by
  intro l
  induction l with
  | zero => intro _; rfl
  | succ l ih =>
    intro h
    rw [show edL lf lt S (l + 1) = if S.testBit l = true then edL lf lt S l ++ [ed lf lt l] else edL lf lt S l from rfl, show edL lf lt T (l + 1) = if T.testBit l = true then edL lf lt T l ++ [ed lf lt l] else edL lf lt T l from rfl, h l (by omega), ih (fun i hi => h i (by omega))]
theorem edL_0 {lf lt : Nat → Int} : ∀ l, edL lf lt 0 l = [] := by
  intro l
  induction l with
  | zero => rfl
  | succ l ih => rw [show edL lf lt 0 (l + 1) = if (0 : Nat).testBit l = true then edL lf lt 0 l ++ [ed lf lt l] else edL lf lt 0 l from rfl, Nat.zero_testBit, if_neg (by decide)]; exact ih
/-! how many links a set has -/
theorem szf_s (S k : Nat) : szf S (k + 1) = szf S k + bI (S.testBit k = true) := rfl
theorem szf_or {A B : Nat} : ∀ n, (∀ i, i < n → ¬ (A.testBit i = true ∧ B.testBit i = true)) → szf (A ||| B) n = szf A n + szf B n := by
  intro n
  induction n with
  | zero => intro _; rfl
  | succ n ih =>
    intro h
    have h1 := ih (fun i hi => h i (by omega))
    have h2 := h n (by omega)
    rw [szf_s, szf_s, szf_s, h1, Nat.testBit_or]
    cases ha : A.testBit n
    · cases hb : B.testBit n
      · simp [bI]
      · simp [bI]; omega
    · cases hb : B.testBit n
      · simp [bI]; omega
      · exact absurd ⟨ha, hb⟩ h2
theorem szf_lt {T m : Nat} (h : T < 2 ^ m) : ∀ n, szf T n ≤ (m : Int) := by
  intro n
  induction n with
  | zero => show (0 : Int) ≤ m; omega
  | succ n ih =>
    rcases Nat.lt_or_ge n m with hq | hq
    · have := (szf_bd T (n + 1)).2; omega
    · rw [szf_s, bI_f (by rw [Nat.testBit_lt_two_pow (Nat.lt_of_lt_of_le h (Nat.pow_le_pow_right (by decide) hq))]; decide)]; omega
theorem szf_0 : ∀ n, szf 0 n = 0 := by
  intro n
  induction n with
  | zero => rfl
  | succ n ih => rw [szf_s, ih, Nat.zero_testBit]; rfl
theorem szf_pos {T m : Nat} (h : T.testBit m = true) : ∀ n, m < n → 1 ≤ szf T n := by
  intro n
  induction n with
  | zero => intro hm; omega
  | succ n ih =>
    intro hm
    rw [szf_s]
    have h0 := (szf_bd T n).1
    rcases bI_01 (T.testBit n = true) with e | e
    · by_cases em : m = n
      · subst em; rw [bI_t h] at e; omega
      · have := ih (by omega); omega
    · omega
theorem szf_eq0 {T : Nat} (hT : T < 2 ^ 16) (h : szf T 16 = 0) : T = 0 := by
  apply Nat.eq_of_testBit_eq
  intro i
  rw [Nat.zero_testBit]
  cases hb : T.testBit i
  · rfl
  · rcases Nat.lt_or_ge i 16 with hq | hq
    · have := szf_pos hb 16 hq; omega
    · rw [Nat.testBit_lt_two_pow (Nat.lt_of_lt_of_le hT (Nat.pow_le_pow_right (by decide) hq))] at hb; cases hb
theorem szf_2 : ∀ m, m < 16 → szf (2 ^ m) 16 = 1 := by decide +kernel
theorem szf_mono (S : Nat) : ∀ {m n : Nat}, m ≤ n → szf S m ≤ szf S n := by
  intro m n
  induction n with
  | zero => intro h; rw [show m = 0 by omega]; exact Int.le_refl _
  | succ n ih =>
    intro h
    by_cases e : m = n + 1
    · rw [e]; exact Int.le_refl _
    · have := ih (by omega)
      rw [szf_s]
      rcases bI_01 (S.testBit n = true) with e2 | e2 <;> omega
def cN (S : Nat) : Nat → Nat
  | 0 => 0
  | k + 1 => cN S k + S / 2 ^ k % 2
theorem cN_szf (S : Nat) : ∀ n, szf S n = (cN S n : Int) := by
  intro n
  induction n with
  | zero => rfl
  | succ n ih =>
    rw [szf_s, ih, show cN S (n + 1) = cN S n + S / 2 ^ n % 2 from rfl]
    by_cases h : S.testBit n = true
    · rw [bI_t h]
      rw [Nat.testBit_eq_decide_div_mod_eq] at h
      have := of_decide_eq_true h
      omega
    · rw [bI_f h]
      rw [Nat.testBit_eq_decide_div_mod_eq] at h
      have h2 : ¬ S / 2 ^ n % 2 = 1 := fun q => h (decide_eq_true q)
      omega
def pcall : Bool := (List.range 128).all (fun a => (List.range 128).all (fun b => Nat.beq (popc (128 * a + b)) (cN (128 * a + b) 16)))
theorem pcall_t : pcall = true := by decide +kernel
theorem popc_szf {S : Nat} (h : S < 16384) : (popc S : Int) = szf S 16 := by
  have h1 := List.all_eq_true.mp pcall_t (S / 128) (List.mem_range.mpr (by omega))
  have h2 := List.all_eq_true.mp h1 (S % 128) (List.mem_range.mpr (by omega))
  rw [show 128 * (S / 128) + S % 128 = S by omega] at h2
  rw [cN_szf, Nat.eq_of_beq_eq_true h2]
/-! the groups' number -/
theorem grp_tb (g p i : Nat) : (grp g p).testBit i = (g.testBit (i + 3 * p) && decide (i < 3)) := by
  unfold grp
  rw [Nat.testBit_and, Nat.testBit_div_two_pow, show (7 : Nat) = 2 ^ 3 - 1 from rfl, Nat.testBit_two_pow_sub_one]
theorem grp_xor {X c q p : Nat} (hc : c < 8) : grp (X ^^^ (c * 2 ^ (3 * q))) p = if p = q then grp X p ^^^ c else grp X p := by
  apply Nat.eq_of_testBit_eq
  intro i
  rw [grp_tb, Nat.testBit_xor, Nat.testBit_mul_two_pow]
  by_cases hi : i < 3
  · by_cases e : p = q
    · subst e
      rw [if_pos rfl, Nat.testBit_xor, grp_tb, decide_eq_true hi, show i + 3 * p - 3 * p = i by omega, decide_eq_true (show 3 * p ≤ i + 3 * p by omega)]
      simp
    · rw [if_neg e, grp_tb]
      rcases Nat.lt_or_ge p q with hq | hq
      · rw [decide_eq_false (show ¬ 3 * q ≤ i + 3 * p by omega)]; simp
      · rw [Nat.testBit_lt_two_pow (x := c) (i := i + 3 * p - 3 * q) (Nat.lt_of_lt_of_le (show c < 2 ^ 3 by omega) (Nat.pow_le_pow_right (by decide) (by omega)))]; simp
  · rw [decide_eq_false hi, Bool.and_false]
    by_cases e : p = q
    · rw [if_pos e, Nat.testBit_xor, grp_tb, decide_eq_false hi, Nat.testBit_lt_two_pow (Nat.lt_of_lt_of_le (show c < 2 ^ 3 by omega) (Nat.pow_le_pow_right (by decide) (show 3 ≤ i by omega)))]; simp
    · rw [if_neg e, grp_tb, decide_eq_false hi, Bool.and_false]
theorem grp_unt {g a b : Nat} (ha : a ≤ 7) (hb : b ≤ 7) : ∀ q p, grp (unt g a b q) p = if p < q ∧ grp g p = b then a else grp g p := by
  intro q
  induction q with
  | zero => intro p; rw [if_neg (by omega)]; rfl
  | succ q ih =>
    intro p
    have hx : a ^^^ b < 8 := Nat.xor_lt_two_pow (n := 3) (show a < 2 ^ 3 by omega) (show b < 2 ^ 3 by omega)
    by_cases hq : grp g q = b
    · rw [← unt_in rfl hq, grp_xor hx]
      by_cases e : p = q
      · subst e
        rw [if_pos rfl, ih, if_neg (by omega), if_pos ⟨by omega, hq⟩, hq, Nat.xor_comm a b, ← Nat.xor_assoc, Nat.xor_self, Nat.zero_xor]
      · rw [if_neg e, ih]
        by_cases hc : p < q ∧ grp g p = b
        · rw [if_pos hc, if_pos ⟨by omega, hc.2⟩]
        · rw [if_neg hc, if_neg (fun hh => hc ⟨by omega, hh.2⟩)]
    · rw [← unt_out rfl hq, ih]
      by_cases hc : p < q ∧ grp g p = b
      · rw [if_pos hc, if_pos ⟨by omega, hc.2⟩]
      · rw [if_neg hc, if_neg (fun hh => hc ⟨by
          have := hh.1
          by_cases e : p = q
          · subst e; exact absurd hh.2 hq
          · omega, hh.2⟩)]
/-! the trees that the class lists -/
theorem or_pow {tree m : Nat} (h : tree < 16384) (hm : m < 14) : tree ||| 2 ^ m < 16384 := or_bd (N := 14) h hm
theorem hg_mem {lf lt : Nat → Int} {nl : Nat} (hnl : nl ≤ 14) (hlf : ∀ j : Nat, j < nl → 0 ≤ lf j ∧ lf j ≤ 5) (hlt : ∀ j : Nat, j < nl → 0 ≤ lt j ∧ lt j ≤ 5) : ∀ (m tree g : Nat) (P : List (Nat × Nat)), m ≤ nl → tree < 16384 → (∀ i, i < m → tree.testBit i = false) → popc tree ≤ 5 → (∀ p, p < 6 → (grp g p : Int) = lb P p) → okD P → ∀ S, S ∈ hg lf lt m tree g ↔ ∃ T, T < 2 ^ m ∧ S = tree ||| T ∧ szf S 16 = 5 ∧ okD (edL lf lt T m ++ P) := by
  intro m
  induction m with
  | zero =>
    intro tree g P _ ht _ _ _ hP S
    have hp := popc_szf ht
    by_cases h5 : popc tree = 5
    · rw [hg_5 h5, List.mem_singleton]
      constructor
      · rintro rfl; exact ⟨0, by decide, (Nat.or_zero _).symm, by omega, hP⟩
      · rintro ⟨T, hT, e, _⟩; rw [e, show T = 0 by omega, Nat.or_zero]
    · rw [hg_0 h5 (Or.inl rfl)]
      constructor
      · intro h; exact absurd h List.not_mem_nil
      · rintro ⟨T, hT, e, h1, _⟩; rw [e, show T = 0 by omega, Nat.or_zero] at h1; omega
  | succ m ih =>
    intro tree g P hm ht hb hp5 hg hP S
    have hp := popc_szf ht
    have hadd : ∀ T, T < 2 ^ (m + 1) → szf (tree ||| T) 16 = szf tree 16 + szf T 16 := by
      intro T hT
      refine szf_or 16 (fun i _ hh => ?_)
      rcases Nat.lt_or_ge i (m + 1) with hq | hq
      · rw [hb i hq] at hh; exact absurd hh.1 (by decide)
      · rw [Nat.testBit_lt_two_pow (Nat.lt_of_lt_of_le hT (Nat.pow_le_pow_right (by decide) hq))] at hh; exact absurd hh.2 (by decide)
    by_cases h5 : popc tree = 5
    · rw [hg_5 h5, List.mem_singleton]
      constructor
      · rintro rfl
        refine ⟨0, Nat.two_pow_pos _, (Nat.or_zero _).symm, by omega, ?_⟩
        rw [edL_0]; exact hP
      · rintro ⟨T, hT, e, h1, _⟩
        have h2 := hadd T hT
        have hT16 : T < 2 ^ 16 := Nat.lt_of_lt_of_le hT (Nat.pow_le_pow_right (by decide) (by omega))
        rw [← e] at h2
        have h3 := szf_eq0 hT16 (by omega)
        rw [e, h3, Nat.or_zero]
    · by_cases hr : ((m + 1 : Nat) : Int) < 5 - (popc tree : Int)
      · rw [hg_0 h5 (Or.inr hr)]
        constructor
        · intro h; exact absurd h List.not_mem_nil
        · rintro ⟨T, hT, e, h1, _⟩
          have h2 := hadd T hT
          have h3 := szf_lt hT 16
          rw [← e] at h2
          omega
      · rw [hg_s h5 (Nat.succ_pos m) hr, show m + 1 - 1 = m from rfl, List.mem_append]
        have hf := hlf m (by omega)
        have hl := hlt m (by omega)
        have hb1 : ∀ i, i < m → tree.testBit i = false := fun i hi => hb i (by omega)
        have ih1 := ih tree g P (by omega) ht hb1 hp5 hg hP S
        have hbm := hb m (by omega)
        have ht2 := or_pow ht (show m < 14 by omega)
        have hp2 := popc_szf ht2
        have ha2 := hadd (2 ^ m) (Nat.pow_lt_pow_right (by decide) (by omega))
        have h2m := szf_2 m (by omega)
        have hp6 : popc (tree ||| 2 ^ m) ≤ 5 := by clear ih ih1; omega
        have hE1 := hg (lf m).toNat (by omega)
        have hE2 := hg (lt m).toNat (by omega)
        have hg2 : ∀ p, p < 6 → (grp (unt g (grp g (lf m).toNat) (grp g (lt m).toNat) 6) p : Int) = lb (ed lf lt m :: P) p := by
          intro p hp6
          rw [grp_unt (grp_le _ _) (grp_le _ _)]
          show _ = if lb P p = lb P (lt m).toNat then lb P (lf m).toNat else lb P p
          rw [← hg p hp6, ← hE1, ← hE2]
          by_cases hc : grp g p = grp g (lt m).toNat
          · rw [if_pos ⟨hp6, hc⟩, if_pos (by rw [hc])]
          · rw [if_neg (fun hh => hc hh.2), if_neg (by omega)]
        constructor
        · rintro (h | h)
          · obtain ⟨T, hT, e, h1, h2⟩ := ih1.mp h
            have hTb : T.testBit m = false := Nat.testBit_lt_two_pow hT
            refine ⟨T, Nat.lt_of_lt_of_le hT (Nat.pow_le_pow_right (by decide) (by omega)), e, h1, ?_⟩
            rw [show edL lf lt T (m + 1) = if T.testBit m = true then edL lf lt T m ++ [ed lf lt m] else edL lf lt T m from rfl, hTb, if_neg (by decide)]
            exact h2
          · by_cases hc : grp g (lf m).toNat = grp g (lt m).toNat
            · rw [if_pos hc] at h; exact absurd h List.not_mem_nil
            · rw [if_neg hc] at h
              have hok : okD (ed lf lt m :: P) := ⟨hP, by show lb P (lf m).toNat ≠ lb P (lt m).toNat; rw [← hE1, ← hE2]; omega⟩
              obtain ⟨T, hT, e, h1, h2⟩ := (ih (tree ||| 2 ^ m) _ _ (by omega) ht2 (fun i hi => by rw [Nat.testBit_or, hb1 i hi, Nat.testBit_two_pow, decide_eq_false (show ¬ m = i by omega)]; rfl) hp6 hg2 hok S).mp h
              have hTb : T.testBit m = false := Nat.testBit_lt_two_pow hT
              refine ⟨2 ^ m ||| T, Nat.or_lt_two_pow (Nat.pow_lt_pow_right (by decide) (by omega)) (Nat.lt_of_lt_of_le hT (Nat.pow_le_pow_right (by decide) (by omega))), by rw [e, Nat.or_assoc], h1, ?_⟩
              rw [show edL lf lt (2 ^ m ||| T) (m + 1) = if (2 ^ m ||| T).testBit m = true then edL lf lt (2 ^ m ||| T) m ++ [ed lf lt m] else edL lf lt (2 ^ m ||| T) m from rfl, if_pos (by rw [Nat.testBit_or, Nat.testBit_two_pow_self, Bool.true_or]), List.append_assoc, edL_congr (S := 2 ^ m ||| T) (T := T) m (fun i hi => by rw [Nat.testBit_or, Nat.testBit_two_pow, decide_eq_false (show ¬ m = i by omega), Bool.false_or])]
              exact h2
        · rintro ⟨T, hT, e, h1, h2⟩
          cases hTb : T.testBit m
          · left
            refine ih1.mpr ⟨T, ?_, e, h1, ?_⟩
            · refine Nat.lt_pow_two_of_testBit _ (fun i hi => ?_)
              by_cases ei : i = m
              · rw [ei]; exact hTb
              · exact Nat.testBit_lt_two_pow (Nat.lt_of_lt_of_le hT (Nat.pow_le_pow_right (by decide) (by omega)))
            · rw [show edL lf lt T (m + 1) = if T.testBit m = true then edL lf lt T m ++ [ed lf lt m] else edL lf lt T m from rfl, hTb, if_neg (by decide)] at h2
              exact h2
          · right
            rw [show edL lf lt T (m + 1) = if T.testBit m = true then edL lf lt T m ++ [ed lf lt m] else edL lf lt T m from rfl, hTb, if_pos rfl, List.append_assoc] at h2
            have hok : okD (ed lf lt m :: P) := okD_tail _ _ h2
            have hne : lb P (lf m).toNat ≠ lb P (lt m).toNat := hok.2
            rw [← hE1, ← hE2] at hne
            rw [if_neg (fun hh => hne (by rw [hh]))]
            have hT2 : sdiff T (2 ^ m) < 2 ^ m := by
              refine Nat.lt_pow_two_of_testBit _ (fun i hi => ?_)
              rw [sdiff_tb, Nat.testBit_two_pow]
              by_cases ei : m = i
              · rw [decide_eq_true ei]; simp
              · rw [Nat.testBit_lt_two_pow (Nat.lt_of_lt_of_le hT (Nat.pow_le_pow_right (by decide) (show m + 1 ≤ i by omega)))]; rfl
            refine (ih (tree ||| 2 ^ m) _ _ (by omega) ht2 (fun i hi => by rw [Nat.testBit_or, hb1 i hi, Nat.testBit_two_pow, decide_eq_false (show ¬ m = i by omega)]; rfl) hp6 hg2 hok S).mpr ⟨sdiff T (2 ^ m), hT2, ?_, h1, ?_⟩
            · rw [e, Nat.or_assoc, or_sd hTb]
            · rw [edL_congr (S := sdiff T (2 ^ m)) (T := T) m (fun i hi => by rw [sdiff_tb, Nat.testBit_two_pow, decide_eq_false (show ¬ m = i by omega)]; simp)]
              exact h2
theorem hg_hi {lf lt : Nat → Int} : ∀ (m tree g S : Nat), S ∈ hg lf lt m tree g → ∀ j, m ≤ j → S.testBit j = tree.testBit j := by
  intro m
  induction m with
  | zero =>
    intro tree g S h j _
    by_cases h5 : popc tree = 5
    · rw [hg_5 h5] at h; rw [List.mem_singleton.mp h]
    · rw [hg_0 h5 (Or.inl rfl)] at h; exact absurd h List.not_mem_nil
  | succ m ih =>
    intro tree g S h j hj
    by_cases h5 : popc tree = 5
    · rw [hg_5 h5] at h; rw [List.mem_singleton.mp h]
    · by_cases hr : ((m + 1 : Nat) : Int) < 5 - (popc tree : Int)
      · rw [hg_0 h5 (Or.inr hr)] at h; exact absurd h List.not_mem_nil
      · rw [hg_s h5 (Nat.succ_pos m) hr, show m + 1 - 1 = m from rfl, List.mem_append] at h
        rcases h with h | h
        · exact ih _ _ _ h j (by omega)
        · split at h
          · exact absurd h List.not_mem_nil
          · rw [ih _ _ _ h j (by omega), Nat.testBit_or, Nat.testBit_two_pow, decide_eq_false (show ¬ m = j by omega), Bool.or_false]
theorem hg_nodup {lf lt : Nat → Int} : ∀ (m tree g : Nat), (∀ i, i < m → tree.testBit i = false) → (hg lf lt m tree g).Nodup := by
  intro m
  induction m with
  | zero =>
    intro tree g _
    by_cases h5 : popc tree = 5
    · rw [hg_5 h5]; exact List.nodup_cons.mpr ⟨List.not_mem_nil, List.nodup_nil⟩
    · rw [hg_0 h5 (Or.inl rfl)]; exact List.nodup_nil
  | succ m ih =>
    intro tree g hb
    by_cases h5 : popc tree = 5
    · rw [hg_5 h5]; exact List.nodup_cons.mpr ⟨List.not_mem_nil, List.nodup_nil⟩
    · by_cases hr : ((m + 1 : Nat) : Int) < 5 - (popc tree : Int)
      · rw [hg_0 h5 (Or.inr hr)]; exact List.nodup_nil
      · rw [hg_s h5 (Nat.succ_pos m) hr, show m + 1 - 1 = m from rfl, List.nodup_append]
        refine ⟨ih _ _ (fun i hi => hb i (by omega)), ?_, ?_⟩
        · split
          · exact List.nodup_nil
          · exact ih _ _ (fun i hi => by rw [Nat.testBit_or, hb i (by omega), Nat.testBit_two_pow, decide_eq_false (show ¬ m = i by omega)]; rfl)
        · intro a ha b hb2 e
          subst e
          have h1 := hg_hi _ _ _ _ ha m (Nat.le_refl _)
          rw [hb m (by omega)] at h1
          split at hb2
          · exact absurd hb2 List.not_mem_nil
          · have h2 := hg_hi _ _ _ _ hb2 m (Nat.le_refl _)
            rw [Nat.testBit_or, Nat.testBit_two_pow_self, Bool.or_true, h1] at h2
            cases h2
def bn : Nat → Nat → Nat
  | _, 0 => 1
  | 0, _ + 1 => 0
  | m + 1, r + 1 => bn m (r + 1) + bn m r
theorem bn_pos0 (m : Nat) : bn m 0 = 1 := by cases m <;> rfl
theorem hg_len {lf lt : Nat → Int} {nl : Nat} (hnl : nl ≤ 14) : ∀ (m tree g : Nat), m ≤ nl → tree < 16384 → (∀ i, i < m → tree.testBit i = false) → popc tree ≤ 5 → (hg lf lt m tree g).length ≤ bn m (5 - popc tree) := by
  intro m
  induction m with
  | zero =>
    intro tree g _ _ _ hp
    by_cases h5 : popc tree = 5
    · rw [hg_5 h5, h5, bn_pos0]; exact Nat.le_refl 1
    · rw [hg_0 h5 (Or.inl rfl)]; exact Nat.zero_le _
  | succ m ih =>
    intro tree g hm ht hb hp5
    have hp := popc_szf ht
    by_cases h5 : popc tree = 5
    · rw [hg_5 h5, h5, bn_pos0]; exact Nat.le_refl 1
    · by_cases hr : ((m + 1 : Nat) : Int) < 5 - (popc tree : Int)
      · rw [hg_0 h5 (Or.inr hr)]; exact Nat.zero_le _
      · rw [hg_s h5 (Nat.succ_pos m) hr, show m + 1 - 1 = m from rfl, List.length_append]
        have hb1 : ∀ i, i < m → tree.testBit i = false := fun i hi => hb i (by omega)
        have ht2 := or_pow ht (show m < 14 by omega)
        have hp2 := popc_szf ht2
        have ha2 : szf (tree ||| 2 ^ m) 16 = szf tree 16 + szf (2 ^ m) 16 := szf_or 16 (fun i _ hh => by
          have h9 := hh.2
          rw [Nat.testBit_two_pow] at h9
          have e := of_decide_eq_true h9
          rw [← e, hb m (by omega)] at hh
          exact absurd hh.1 (by decide))
        have h2m := szf_2 m (by omega)
        have e1 : popc (tree ||| 2 ^ m) = popc tree + 1 := by omega
        have i1 := ih tree g (by omega) ht hb1 hp5
        have i2 : (if grp g (lf m).toNat = grp g (lt m).toNat then [] else hg lf lt m (tree ||| 2 ^ m) (unt g (grp g (lf m).toNat) (grp g (lt m).toNat) 6)).length ≤ bn m (5 - (popc tree + 1)) := by
          split
          · exact Nat.zero_le _
          · rw [← e1]
            exact ih _ _ (by omega) ht2 (fun i hi => by rw [Nat.testBit_or, hb1 i hi, Nat.testBit_two_pow, decide_eq_false (show ¬ m = i by omega)]; rfl) (by omega)
        obtain ⟨r, hr2⟩ : ∃ r, 5 - popc tree = r + 1 := ⟨4 - popc tree, by omega⟩
        rw [hr2, show bn (m + 1) (r + 1) = bn m (r + 1) + bn m r from rfl, ← hr2, show r = 5 - (popc tree + 1) by omega]
        omega
theorem bn_14 : ∀ m, m < 15 → bn m 5 ≤ 2002 := by decide +kernel
theorem grp_id : ∀ p, p < 6 → grp 181896 p = p := by decide +kernel
theorem popc_0 : popc 0 = 0 := by decide +kernel
theorem trees_mem {lf lt : Nat → Int} {nl : Nat} (hnl : nl ≤ 14) (hlf : ∀ j : Nat, j < nl → 0 ≤ lf j ∧ lf j ≤ 5) (hlt : ∀ j : Nat, j < nl → 0 ≤ lt j ∧ lt j ≤ 5) (x : Nat) : x ∈ hg lf lt nl 0 181896 ↔ x < 2 ^ nl ∧ (szf x 16 = 5 ∧ okT lf lt x nl = true) := by
  rw [hg_mem hnl hlf hlt nl 0 181896 [] (Nat.le_refl _) (by decide) (fun i _ => Nat.zero_testBit i) (by rw [popc_0]; decide) (fun p hp => by rw [grp_id p hp]; rfl) trivial x, okT_okD, ← okD_perm (edL_perm nl)]
  constructor
  · rintro ⟨T, hT, e, h1, h2⟩
    rw [Nat.zero_or] at e
    subst e
    rw [List.append_nil] at h2
    exact ⟨hT, h1, h2⟩
  · rintro ⟨hT, h1, h2⟩
    exact ⟨x, hT, (Nat.zero_or x).symm, h1, by rw [List.append_nil]; exact h2⟩
theorem trees_nodup {lf lt : Nat → Int} {nl : Nat} : (hg lf lt nl 0 181896).Nodup := hg_nodup nl 0 181896 (fun i _ => Nat.zero_testBit i)
theorem trees_len {lf lt : Nat → Int} {nl : Nat} (hnl : nl ≤ 14) : (hg lf lt nl 0 181896).length ≤ 2002 := by
  have h := hg_len (lf := lf) (lt := lt) hnl nl 0 181896 (Nat.le_refl _) (by decide) (fun i _ => Nat.zero_testBit i) (by rw [popc_0]; decide)
  rw [popc_0] at h
  exact Nat.le_trans h (bn_14 nl (by omega))
