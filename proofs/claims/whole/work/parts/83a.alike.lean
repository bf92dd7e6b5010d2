/-! what is asked of the two lists is answered alike -/
theorem sg_d {k : Nat} {sg : Int} (h : sg = sgF k) : sg = 1 ∨ sg = -1 := by rw [h]; unfold sgF; split <;> simp
theorem sg_3 {k : Nat} {sg : Int} (h : sg = sgF k) : sg = -1 ↔ 3 ≤ k := by
  rw [h]; unfold sgF
  split <;> omega
theorem sgsg {sg x y p q : Int} (h : sg = 1 ∨ sg = -1) : sg * (sg * x * q + sg * y * p) = x * q + y * p := by
  rcases h with rfl | rfl
  · simp only [Int.one_mul]
  · simp only [Int.neg_mul, Int.one_mul]; omega
theorem sg1 {sg x : Int} (h : sg = 1 ∨ sg = -1) : sg * (sg * x) = x := by
  rcases h with rfl | rfl
  · simp only [Int.one_mul]
  · simp only [Int.neg_mul, Int.one_mul]; omega
theorem tAt_cst {κ μ : AS} {n : Nat} {sg p q : Int} (h : SM2 κ μ n sg) {j : Nat} (hj : j < n) : tAt (μ 3) (μ 4) p q j = cst sg (κ 2) (κ 3) p q j := by
  rw [cst_turn]
  unfold tAt
  rw [(h j hj).2.1, (h j hj).2.2]
theorem qr_b {κ μ : AS} {n : Nat} {sg p q : Int} (h : SM2 κ μ n sg) : best (tAt (μ 3) (μ 4) p q) n = best (cst sg (κ 2) (κ 3) p q) n := best_congr (fun j hj => tAt_cst h hj)
theorem qr_best {κ μ : AS} {k n : Nat} {sg p q : Int} {σ : AS} (hsg : sg = sgF k) (h : SM2 κ μ n sg) : rBest k n (μ 2) (μ 3) (μ 4) σ p q = qBest n (κ 1) (κ 2) (κ 3) sg σ p q := by
  unfold rBest qBest
  by_cases h0 : n = 0
  · rw [if_pos h0, if_pos h0]
  · rw [if_neg h0, if_neg h0, qr_b h]
    have hb := best_lt (c := cst sg (κ 2) (κ 3) p q) (show 0 < n by omega)
    rw [(h _ hb).1, (h _ hb).2.1, (h _ hb).2.2, ← hsg, sgsg (sg_d hsg)]
theorem lrat_congr {a b A B : Nat → Int} {n : Nat} (h : ∀ j : Nat, j < n → A j = a j ∧ B j = b j) : lrat A B n = lrat a b n := by
  induction n with
  | zero => rfl
  | succ n ih =>
    have e := ih (fun j hj => h j (by omega))
    rw [show lrat A B (n + 1) = if A n * B (lrat A B n) < A (lrat A B n) * B n then n else lrat A B n from rfl, show lrat a b (n + 1) = if a n * b (lrat a b n) < a (lrat a b n) * b n then n else lrat a b n from rfl, e]
    rcases Nat.eq_zero_or_pos n with h0 | h0
    · subst h0
      rw [show lrat a b 0 = 0 from rfl, (h 0 (by omega)).1, (h 0 (by omega)).2]
    · have hl := lrat_lt (a := a) (b := b) h0
      rw [(h n (by omega)).1, (h n (by omega)).2, (h (lrat a b n) (by omega)).1, (h (lrat a b n) (by omega)).2]
theorem qr_rat {κ μ : AS} {k n : Nat} {sg : Int} {σ : AS} (hsg : sg = sgF k) (h : SM2 κ μ n sg) : rRat k n (μ 2) (μ 3) (μ 4) σ = qRatio n (κ 1) (κ 2) (κ 3) sg σ := by
  unfold rRat qRatio
  have h3 := sg_3 hsg
  by_cases hk : 3 ≤ k
  · rw [if_pos (Or.inr (Or.inl hk)), if_pos (Or.inl (h3.mpr hk))]
  · have hs1 : sg = 1 := (sg_d hsg).resolve_right (fun e => hk (h3.mp e))
    subst hs1
    have h1 : ∀ j : Nat, j < n → μ 3 j = κ 2 j ∧ μ 4 j = κ 3 j := fun j hj => ⟨by rw [(h j hj).2.1, Int.one_mul], by rw [(h j hj).2.2, Int.one_mul]⟩
    by_cases h0 : n = 0
    · rw [if_pos (Or.inl h0), if_pos (Or.inr (Or.inl h0))]
    · by_cases hp : ∀ j : Nat, j < n → 0 < κ 3 j
      · have hp2 : ∀ j : Nat, j < n → 0 < μ 4 j := fun j hj => by rw [(h1 j hj).2]; exact hp j hj
        rw [if_neg (fun hh => hh.elim h0 (fun hh => hh.elim hk (fun q => q hp2))), if_neg (fun hh => hh.elim (by decide) (fun hh => hh.elim h0 (fun q => q hp))), lrat_congr h1]
        have hl := lrat_lt (a := κ 2) (b := κ 3) (show 0 < n by omega)
        rw [(h _ hl).1, (h1 _ hl).1, (h1 _ hl).2]
      · have hp2 : ¬ ∀ j : Nat, j < n → 0 < μ 4 j := fun q => hp (fun j hj => by rw [← (h1 j hj).2]; exact q j hj)
        rw [if_pos (Or.inr (Or.inr hp2)), if_pos (Or.inr (Or.inr hp))]
theorem rue_eq {κ μ : AS} {n : Nat} {sg T : Int} (h : SM2 κ μ n sg) {u v j : Nat} (hu : u < n) (hv : v < n) (hj : j < n) : rueR (μ 3) (μ 4) T u v j = rueF (κ 2) (κ 3) sg T u v j := by
  unfold rueR rueF
  rw [cst_turn, cst_turn, cst_turn, cst_turn, (h j hj).2.1, (h j hj).2.2, (h u hu).2.1, (h v hv).2.1, (h v hv).2.2]
  simp only [Int.mul_one, Int.mul_zero, Int.add_zero]
  congr 1
  omega
theorem qr_rue {κ μ : AS} {n : Nat} {sg T : Int} {σ : AS} (h : SM2 κ μ n sg) : rRue n (μ 2) (μ 3) (μ 4) T σ = qRue n (κ 1) (κ 2) (κ 3) sg T σ := by
  unfold rRue qRue
  by_cases h0 : n = 0
  · rw [if_pos h0, if_pos h0]
  · rw [if_neg h0, if_neg h0, qr_b h, qr_b h]
    have hu := best_lt (c := cst sg (κ 2) (κ 3) 0 1) (show 0 < n by omega)
    have hv := best_lt (c := cst sg (κ 2) (κ 3) T 1) (show 0 < n by omega)
    have e := best_congr (n := n) (fun j hj => rue_eq (T := T) h hu hv hj)
    rw [e]
    have hb := best_lt (c := rueF (κ 2) (κ 3) sg T (best (cst sg (κ 2) (κ 3) 0 1) n) (best (cst sg (κ 2) (κ 3) T 1) n)) (show 0 < n by omega)
    rw [(h _ hb).1, rue_eq h hu hv hb]
theorem qr_pace {κ μ : AS} {n : Nat} {sg : Int} (h : SM2 κ μ n sg) : (fun t_ : Nat => best (tAt (μ 3) (μ 4) (t_ : Int) 1) n) = bpl n (κ 2) (κ 3) sg := by
  funext t
  exact qr_b h
theorem inB_eq {κ μ : AS} {n : Nat} {sg : Int} (h : SM2 κ μ n sg) {pt j : Nat} (hj : j < n) : inB (μ 2) pt j = inB (κ 1) pt j := by unfold inB; rw [(h j hj).1]
theorem least_congr {P Q : Nat → Prop} [DecidablePred P] [DecidablePred Q] {d e : Nat → Int} {n : Nat} (h : ∀ j : Nat, j < n → (P j ↔ Q j) ∧ d j = e j) : least P d n = least Q e n := by
  induction n with
  | zero => rfl
  | succ n ih =>
    have e1 := ih (fun j hj => h j (by omega))
    obtain ⟨h1, h2⟩ := h n (by omega)
    rw [show least P d (n + 1) = if P n ∧ (least P d n = -1 ∨ d n < least P d n) then d n else least P d n from rfl, show least Q e (n + 1) = if Q n ∧ (least Q e n = -1 ∨ e n < least Q e n) then e n else least Q e n from rfl, e1, h2]
    by_cases hc : Q n ∧ (least Q e n = -1 ∨ e n < least Q e n)
    · rw [if_pos hc, if_pos ⟨h1.mpr hc.1, hc.2⟩]
    · rw [if_neg hc, if_neg (fun q => hc ⟨h1.mp q.1, q.2⟩)]
theorem qr_slack {κ μ : AS} {k n : Nat} {sg t w : Int} {pt : Nat} (hsg : sg = sgF k) (h : SM2 κ μ n sg) (h0 : 0 < n) : rSlack k n (μ 2) (μ 3) (μ 4) pt t w = qSlack n (κ 1) (κ 2) (κ 3) sg pt t (bI (w = 1)) := by
  unfold rSlack qSlack
  have hb := best_lt (c := cst sg (κ 2) (κ 3) t 1) h0
  rw [qr_b h, inB_eq h hb, ← hsg]
  have e := least_congr (n := n) (P := fun j => inB (μ 2) pt j ≠ inB (κ 1) pt (best (cst sg (κ 2) (κ 3) t 1) n)) (Q := fun j => inB (κ 1) pt j ≠ inB (κ 1) pt (best (cst sg (κ 2) (κ 3) t 1) n)) (d := fun j => μ 3 j - μ 3 (best (cst sg (κ 2) (κ 3) t 1) n) + (μ 4 j - μ 4 (best (cst sg (κ 2) (κ 3) t 1) n)) * t) (e := fun j => cst sg (κ 2) (κ 3) t 1 j - cst sg (κ 2) (κ 3) t 1 (best (cst sg (κ 2) (κ 3) t 1) n)) (fun j hj => ⟨by rw [inB_eq h hj], by
    show μ 3 j - μ 3 (best (cst sg (κ 2) (κ 3) t 1) n) + (μ 4 j - μ 4 (best (cst sg (κ 2) (κ 3) t 1) n)) * t = cst sg (κ 2) (κ 3) t 1 j - cst sg (κ 2) (κ 3) t 1 (best (cst sg (κ 2) (κ 3) t 1) n)
    rw [← tAt_cst h hj, ← tAt_cst h hb]
    unfold tAt
    rw [Int.sub_mul]; omega⟩)
  rw [e]
theorem qr_tol {κ μ : AS} {k n : Nat} {sg t w : Int} {pt : Nat} {σ : AS} (hsg : sg = sgF k) (h : SM2 κ μ n sg) : rTol k n (μ 2) (μ 3) (μ 4) σ pt t w = qTol n (κ 1) (κ 2) (κ 3) sg σ pt t w := by
  unfold rTol qTol
  by_cases h0 : n = 0
  · rw [if_pos h0, if_pos h0]
  · rw [if_neg h0, if_neg h0, qr_slack hsg h (by omega)]
/-! pieces -/
theorem fpl_congr {A B A' B' : Nat → Int} {n : Nat} (h : ∀ j : Nat, j < n → A j = A' j ∧ B j = B' j) : fpl A B n = fpl A' B' n := by
  induction n with
  | zero => rfl
  | succ n ih =>
    have e := ih (fun j hj => h j (by omega))
    rw [show fpl A B (n + 1) = if A n < A (fpl A B n) ∨ (A n = A (fpl A B n) ∧ B n < B (fpl A B n)) then n else fpl A B n from rfl, show fpl A' B' (n + 1) = if A' n < A' (fpl A' B' n) ∨ (A' n = A' (fpl A' B' n) ∧ B' n < B' (fpl A' B' n)) then n else fpl A' B' n from rfl, e]
    rcases Nat.eq_zero_or_pos n with h0 | h0
    · subst h0
      rw [show fpl A' B' 0 = 0 from rfl, (h 0 (by omega)).1, (h 0 (by omega)).2]
    · have hl := fpl_lt (A := A') (B := B') h0
      rw [(h n (by omega)).1, (h n (by omega)).2, (h (fpl A' B' n) (by omega)).1, (h (fpl A' B' n) (by omega)).2]
theorem pseq_congr {A B A' B' : Nat → Int} {n : Nat} {T : Int} (h0 : 0 < n) (h : ∀ j : Nat, j < n → A j = A' j ∧ B j = B' j) : ∀ i, pseq A B n T i = pseq A' B' n T i := by
  intro i
  induction i with
  | zero => rw [show pseq A B n T 0 = ((fpl A B n : Int), 0, 1) from rfl, show pseq A' B' n T 0 = ((fpl A' B' n : Int), 0, 1) from rfl, fpl_congr h]
  | succ i ih =>
    rcases pseq_plan (A := A') (B := B') (T := T) h0 i with e | ⟨j, hj, e⟩
    · have e2 : (pseq A B n T i).1 = -1 := by rw [ih]; exact e
      rw [show pseq A B n T (i + 1) = if (pseq A B n T i).1 = -1 then (-1, 0, 1) else nxs (fun k => A k - A (pseq A B n T i).1.toNat) (fun k => B (pseq A B n T i).1.toNat - B k) T n from rfl, if_pos e2, show pseq A' B' n T (i + 1) = if (pseq A' B' n T i).1 = -1 then (-1, 0, 1) else nxs (fun k => A' k - A' (pseq A' B' n T i).1.toNat) (fun k => B' (pseq A' B' n T i).1.toNat - B' k) T n from rfl, if_pos e]
    · have e2 : (pseq A B n T i).1 = (j : Int) := by rw [ih]; exact e
      rw [pseq_next e, pseq_next e2]
      refine nxs_congr (fun q hq => ?_)
      rw [(h q hq).1, (h q hq).2, (h j hj).1, (h j hj).2]
      exact ⟨rfl, rfl⟩
/-- the reference's pieces are the class's -/
theorem pcs {σ κ ρ μ : AS} {n c pm : Nat} {sg : Int} (h : SM2 κ μ n sg) (h0 : 0 < n) (hc : CP σ κ ρ n c sg) (hf : FPc σ μ n pm) : pm = c ∧ 0 < c ∧ (∀ j : Nat, j < c → μ 5 j = ρ 1 j ∧ μ 6 j = ρ 2 j ∧ μ 7 j = ρ 3 j) ∧ ρ 2 c = σ 0 0 ∧ ρ 3 c = 1 ∧ (∀ j : Nat, j < c → 0 ≤ ρ 1 j ∧ ρ 1 j < (n : Int)) := by
  rcases hc with ⟨e, _⟩ | ⟨_, h1, h2, h3, h4, h5, h6, h7⟩
  · omega
  · obtain ⟨g1, g2, g3, g4, g5, g6⟩ := hf
    have ec := pseq_congr (A := μ 3) (B := μ 4) (A' := fun q => sg * κ 2 q) (B' := fun q => sg * κ 3 q) (T := σ 0 0) h0 (fun j hj => ⟨(h j hj).2.1, (h j hj).2.2⟩)
    rw [ec] at g2
    have e : pm = c := by
      rcases Nat.lt_trichotomy pm c with q | q | q
      · exact absurd g2 (h4 pm q)
      · exact q
      · have := g3 c q
        rw [ec] at this
        exact absurd h3 this
    subst e
    refine ⟨rfl, h1, fun j hj => ?_, h6, h7, fun j hj => ?_⟩
    · rw [g4 j hj, g5 j hj, g6 j hj, ec, (h5 j hj).1, (h5 j hj).2.1, (h5 j hj).2.2]
      exact ⟨rfl, rfl, rfl⟩
    · rw [(h5 j hj).1]
      rcases pseq_plan (A := fun q => sg * κ 2 q) (B := fun q => sg * κ 3 q) (T := σ 0 0) h0 j with e | ⟨i, hi, e⟩
      · exact absurd e (h4 j hj)
      · rw [e]; omega
theorem CP_0 {σ κ ρ : AS} {c : Nat} {sg : Int} (h : CP σ κ ρ 0 c sg) : c = 0 := by rcases h with h | h <;> omega
theorem hend_congr {v v' q q' : Nat → Int} : ∀ c, (∀ i, i ≤ c → v i = v' i ∧ q i = q' i) → hend v q c = hend v' q' c := by
  intro c
  induction c with
  | zero => intro _; rfl
  | succ c ih =>
    intro h
    have e := ih (fun i hi => h i (by omega))
    have hl := hend_le (v := v') (q := q') c
    rw [show hend v q (c + 1) = if v (hend v q c) * q (c + 1) < v (c + 1) * q (hend v q c) then c + 1 else hend v q c from rfl, show hend v' q' (c + 1) = if v' (hend v' q' c) * q' (c + 1) < v' (c + 1) * q' (hend v' q' c) then c + 1 else hend v' q' c from rfl, e, (h (c + 1) (by omega)).1, (h (c + 1) (by omega)).2, (h (hend v' q' c) (by omega)).1, (h (hend v' q' c) (by omega)).2]
theorem grw_congr {bt bt' fp fp' : Nat → Int} : ∀ c, (∀ i, i ≤ c → bt (fp i).toNat = bt' (fp' i).toNat) → grw bt fp c = grw bt' fp' c := by
  intro c
  induction c with
  | zero => intro _; rfl
  | succ c ih =>
    intro h
    rw [show grw bt fp (c + 1) = (grw bt fp c && decide (sdiff (bt (fp c).toNat).toNat (bt (fp (c + 1)).toNat).toNat = 0)) from rfl, show grw bt' fp' (c + 1) = (grw bt' fp' c && decide (sdiff (bt' (fp' c).toNat).toNat (bt' (fp' (c + 1)).toNat).toNat = 0)) from rfl, ih (fun i hi => h i (by omega)), h c (by omega), h (c + 1) (by omega)]
theorem qr_piece {κ ρ μ : AS} {k n c : Nat} {sg i w : Int} (hsg : sg = sgF k) (h : SM2 κ μ n sg) (hc : 0 < c) (hr : ∀ j : Nat, j < c → μ 5 j = ρ 1 j ∧ μ 6 j = ρ 2 j ∧ μ 7 j = ρ 3 j) (hp : ∀ j : Nat, j < c → 0 ≤ ρ 1 j ∧ ρ 1 j < (n : Int)) (hi : 0 ≤ i ∧ 0 ≤ w ∧ w < 3) : rPc k (μ 2) (μ 3) (μ 4) (μ 5) c i w = qPiece n c (κ 1) (κ 2) (κ 3) (ρ 1) i w := by
  unfold rPc qPiece
  rw [if_neg (show ¬ (i < 0 ∨ ¬ (0 ≤ w ∧ w < 3)) by omega), if_neg (show ¬ c = 0 by omega)]
  by_cases h1 : (c : Int) ≤ i
  · rw [if_pos h1, if_pos h1]
  · rw [if_neg h1, if_neg h1]
    have hj : i.toNat < c := by omega
    have hpj := hp _ hj
    have hx : (ρ 1 i.toNat).toNat < n := by omega
    rw [(hr _ hj).1, (h _ hx).1, (h _ hx).2.1, (h _ hx).2.2, ← hsg, sg1 (sg_d hsg), sg1 (sg_d hsg)]
theorem rV_bsum {σ κ ρ μ : AS} {k n c : Nat} {sg : Int} (hsg : sg = sgF k) (h : SM2 κ μ n sg) (hc : 0 < c) (hr : ∀ j : Nat, j < c → μ 5 j = ρ 1 j ∧ μ 6 j = ρ 2 j ∧ μ 7 j = ρ 3 j) (hp : ∀ j : Nat, j < c → 0 ≤ ρ 1 j ∧ ρ 1 j < (n : Int)) (hT : ρ 2 c = σ 0 0) (hQ : ρ 3 c = 1) : ∀ i, i ≤ c → rP σ μ c i = ρ 2 i ∧ rQ μ c i = ρ 3 i ∧ rV k σ μ c i = bsum (κ 2) (κ 3) (ρ 1) (ρ 2) (ρ 3) c i := by
  intro i hi
  have e1 : rP σ μ c i = ρ 2 i := by
    by_cases hq : i < c
    · rw [rP_lt hq, (hr i hq).2.1]
    · rw [rP_ge hq, show i = c by omega, hT]
  have e2 : rQ μ c i = ρ 3 i := by
    by_cases hq : i < c
    · rw [rQ_lt hq, (hr i hq).2.2]
    · rw [rQ_ge hq, show i = c by omega, hQ]
  refine ⟨e1, e2, ?_⟩
  have hm : min i (c - 1) < c := by omega
  have e3 : rK μ c i = (ρ 1 (min i (c - 1))).toNat := by
    by_cases hq : i < c
    · rw [rK_lt hq, show min i (c - 1) = i by omega, (hr i hq).1]
    · rw [rK_ge hq, show min i (c - 1) = i - 1 by omega, (hr (i - 1) (by omega)).1]
  have hx : (ρ 1 (min i (c - 1))).toNat < n := by have := hp _ hm; omega
  unfold rV bsum
  rw [e1, e2, e3, (h _ hx).2.1, (h _ hx).2.2, ← hsg, sgsg (sg_d hsg)]
