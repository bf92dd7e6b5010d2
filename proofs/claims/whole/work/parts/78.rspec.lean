/-! the reference's asking calls -/
theorem H140R_use {k nl nt nb : Nat} {σ μ : AS} {mn : Nat} (h : H140R k nl nt nb σ) (hl : LO k nl nt nb σ μ mn) (h0 : 0 < mn) : (pseq (μ 3) (μ 4) mn (σ 0 0) 140).1 = -1 := h μ mn hl h0
theorem FPc_bd {k nl nt nb : Nat} {σ μ : AS} {mn pm : Nat} (hs : SI k nl nt nb σ) (hcap : (PLs k nl nt nb σ).length ≤ 2002) (hl : LO k nl nt nb σ μ mn) (h0 : 0 < mn) (h : FPc σ μ mn pm) : ∀ j : Nat, j < pm → (0 ≤ μ 5 j ∧ μ 5 j < (mn : Int)) ∧ (0 ≤ μ 6 j ∧ μ 6 j ≤ 3200) ∧ (1 ≤ μ 7 j ∧ μ 7 j ≤ 3200) := by
  obtain ⟨h1, h2, h3, h4, h5, h6⟩ := h
  have hb := LO_bd hs hcap hl
  have ht := SI_top hs
  intro j hj
  rw [h4 j hj, h5 j hj, h6 j hj]
  refine ⟨?_, pseq_bd1 hb.2.1 hb.2.2.1 h0 ht j (h3 j hj)⟩
  rcases pseq_plan (A := μ 3) (B := μ 4) (T := σ 0 0) h0 j with e | ⟨i, hi, e⟩
  · exact absurd e (h3 j hj)
  · rw [e]; omega
def rBest (k mn : Nat) (bt A B : Nat → Int) (σ : AS) (p q : Int) : Int × AS := if mn = 0 then (-3, σ) else (bt (best (tAt A B p q) mn), tl σ (sgF k * (A (best (tAt A B p q) mn) * q + B (best (tAt A B p q) mn) * p)) q)
theorem sg_mul {k : Nat} {x M : Int} (h : -M ≤ x ∧ x ≤ M) : -M ≤ sgF k * x ∧ sgF k * x ≤ M := by
  unfold sgF; split <;> omega
def rPc (k : Nat) (bt A B fp : Nat → Int) (pm : Nat) (i w : Int) : Int := if (pm : Int) ≤ i then -100000 else if w = 0 then bt (fp i.toNat).toNat else if w = 1 then sgF k * A (fp i.toNat).toNat else sgF k * B (fp i.toNat).toNat
def rP (σ μ : AS) (pm : Nat) : Nat → Int := fun i => if i < pm then μ 6 i else σ 0 0
def rQ (μ : AS) (pm : Nat) : Nat → Int := fun i => if i < pm then μ 7 i else 1
def rK (μ : AS) (pm : Nat) : Nat → Nat := fun i => (μ 5 (if i < pm then i else i - 1)).toNat
def rV (k : Nat) (σ μ : AS) (pm : Nat) : Nat → Int := fun i => sgF k * (μ 3 (rK μ pm i) * rQ μ pm i + μ 4 (rK μ pm i) * rP σ μ pm i)
theorem rP_lt {σ μ : AS} {pm i : Nat} (h : i < pm) : rP σ μ pm i = μ 6 i := if_pos h
theorem rP_ge {σ μ : AS} {pm i : Nat} (h : ¬ i < pm) : rP σ μ pm i = σ 0 0 := if_neg h
theorem rQ_lt {μ : AS} {pm i : Nat} (h : i < pm) : rQ μ pm i = μ 7 i := if_pos h
theorem rQ_ge {μ : AS} {pm i : Nat} (h : ¬ i < pm) : rQ μ pm i = 1 := if_neg h
theorem rK_lt {μ : AS} {pm i : Nat} (h : i < pm) : rK μ pm i = (μ 5 i).toNat := by unfold rK; rw [if_pos h]
theorem rK_ge {μ : AS} {pm i : Nat} (h : ¬ i < pm) : rK μ pm i = (μ 5 (i - 1)).toNat := by unfold rK; rw [if_neg h]
def HX (v q P : Nat → Int) (i : Nat) (x y z : Int) : Prop := (i = 0 ∧ x = 0 ∧ y = 1 ∧ z = 0) ∨ (0 < i ∧ x = P (hend v q (i - 1)) ∧ y = q (hend v q (i - 1)) ∧ z = v (hend v q (i - 1)))
theorem HX_acc {v q P : Nat → Int} {i : Nat} {x y z : Int} (h : HX v q P i x y z) (hc : i = 0 ∨ z * q i < v i * y) : HX v q P (i + 1) (P i) (q i) (v i) := by
  refine Or.inr ⟨by omega, ?_⟩
  rcases h with ⟨e, _⟩ | ⟨h0, h1, h2, h3⟩
  · subst e; exact ⟨rfl, rfl, rfl⟩
  · have hc2 := hc.resolve_left (by omega)
    rw [h2, h3] at hc2
    obtain ⟨j, rfl⟩ : ∃ j, i = j + 1 := ⟨i - 1, by omega⟩
    have e : hend v q (j + 1 + 1 - 1) = j + 1 := by
      show hend v q (j + 1) = j + 1
      exact (hend_step (i := j) rfl hc2).symm
    rw [e]; exact ⟨rfl, rfl, rfl⟩
theorem HX_rej {v q P : Nat → Int} {i : Nat} {x y z : Int} (h : HX v q P i x y z) (h0 : i ≠ 0) (hc : ¬ z * q i < v i * y) : HX v q P (i + 1) x y z := by
  refine Or.inr ⟨by omega, ?_⟩
  rcases h with ⟨e, _⟩ | ⟨_, h1, h2, h3⟩
  · exact absurd e h0
  · rw [h2, h3] at hc
    obtain ⟨j, rfl⟩ : ∃ j, i = j + 1 := ⟨i - 1, by omega⟩
    have e : hend v q (j + 1 + 1 - 1) = hend v q j := by
      show hend v q (j + 1) = hend v q j
      exact (hend_stay (i := j) rfl (Int.not_lt.mp hc)).symm
    rw [e]; exact ⟨h1, h2, h3⟩
def rSlack (k mn : Nat) (bt A B : Nat → Int) (pt : Nat) (t w : Int) : Int := if inB bt pt (best (tAt A B t 1) mn) = bI (bI (w = 1) = bI (sgF k = 1)) then least (fun j => inB bt pt j ≠ inB bt pt (best (tAt A B t 1) mn)) (fun j => A j - A (best (tAt A B t 1) mn) + (B j - B (best (tAt A B t 1) mn)) * t) mn else -1
def rTol (k mn : Nat) (bt A B : Nat → Int) (σ : AS) (pt : Nat) (t w : Int) : Int × AS := if mn = 0 then (-3, σ) else if rSlack k mn bt A B pt t w = -1 then (0, σ) else (1, tl σ (rSlack k mn bt A B pt t w) 1)
theorem tol_nn {A B : Nat → Int} {mn : Nat} {t : Int} {j : Nat} (hj : j < mn) : 0 ≤ A j - A (best (tAt A B t 1) mn) + (B j - B (best (tAt A B t 1) mn)) * t := by
  have h := best_min (c := tAt A B t 1) hj
  unfold tAt at h
  rw [Int.sub_mul]
  rw [Int.mul_one, Int.mul_one] at h
  unfold tAt
  omega
def rRat (k mn : Nat) (bt A B : Nat → Int) (σ : AS) : Int × AS := if mn = 0 ∨ 3 ≤ k ∨ ¬ (∀ j : Nat, j < mn → 0 < B j) then (-3, σ) else (bt (lrat A B mn), tl σ (A (lrat A B mn)) (B (lrat A B mn)))
def rueR (A B : Nat → Int) (T : Int) (u v : Nat) : Nat → Int := fun j => max (A j - A u) (A j + B j * T - A v - B v * T)
def rRue (mn : Nat) (bt A B : Nat → Int) (T : Int) (σ : AS) : Int × AS := if mn = 0 then (-3, σ) else (bt (best (rueR A B T (best (tAt A B 0 1) mn) (best (tAt A B T 1) mn)) mn), tl σ (rueR A B T (best (tAt A B 0 1) mn) (best (tAt A B T 1) mn) (best (rueR A B T (best (tAt A B 0 1) mn) (best (tAt A B T 1) mn)) mn)) 1)
def BX (c : Nat → Int) (i : Nat) (x y : Int) : Prop := (i = 0 ∧ x = -1 ∧ y = 0) ∨ (0 < i ∧ x = ((best c i : Nat) : Int) ∧ y = c (best c i))
theorem BX_acc {c : Nat → Int} {i : Nat} {x y : Int} (h : BX c i x y) (hc : x = -1 ∨ c i < y) : BX c (i + 1) (i : Int) (c i) := by
  refine Or.inr ⟨by omega, ?_⟩
  rcases h with ⟨e, _⟩ | ⟨h0, h1, h2⟩
  · subst e; rw [show 0 + 1 = 1 from rfl, best_1]; exact ⟨rfl, rfl⟩
  · have hc2 := hc.resolve_left (by omega)
    rw [h2] at hc2
    have e : i = best c (i + 1) := best_step rfl rfl hc2
    rw [← e]; exact ⟨rfl, rfl⟩
theorem BX_rej {c : Nat → Int} {i : Nat} {x y : Int} (h : BX c i x y) (hx : x ≠ -1) (hc : y ≤ c i) : BX c (i + 1) x y := by
  refine Or.inr ⟨by omega, ?_⟩
  rcases h with ⟨_, e, _⟩ | ⟨h0, h1, h2⟩
  · exact absurd e hx
  · rw [h2] at hc
    have e : best c i = best c (i + 1) := best_stay rfl rfl (by omega)
    rw [← e]; exact ⟨h1, h2⟩
theorem PLs_pos4 {nl nt nb : Nat} {σ : AS} : 0 < (PLs 4 nl nt nb σ).length := by
  apply List.length_pos_of_mem (a := 0)
  refine List.mem_filter.mpr ⟨List.mem_range.mpr (Nat.two_pow_pos _), ?_⟩
  show ftH (σ 12) 0 nb = true
  induction nb with
  | zero => rfl
  | succ b ih => rw [ftH_s, ih]; simp
/-! in which span a plan is best -/
def bstAt (A B : Nat → Int) (n u : Nat) (x y : Int) : Prop := ∀ j : Nat, j < n → A u * y + B u * x ≤ A j * y + B j * x
def nowR (A B : Nat → Int) (n : Nat) (T : Int) (u : Nat) : Prop := ∀ x y : Int, 0 < y → 0 ≤ x → x ≤ T * y → ¬ bstAt A B n u x y
def SPI (A B : Nat → Int) (T : Int) (u i : Nat) (a b c d : Int) : Prop := (0 < b ∧ 0 ≤ a ∧ 0 < d ∧ c ≤ T * d) ∧ (∀ j : Nat, j < i → (B u = B j → A u ≤ A j) ∧ (B j < B u → c * (B u - B j) ≤ (A j - A u) * d) ∧ (B u < B j → (A u - A j) * b ≤ a * (B j - B u))) ∧ ((a = 0 ∧ b = 1) ∨ ∃ j : Nat, j < i ∧ B u < B j ∧ a = A u - A j ∧ b = B j - B u) ∧ ((c = T ∧ d = 1) ∨ ∃ j : Nat, j < i ∧ B j < B u ∧ c = A j - A u ∧ d = B u - B j)
def SPR (A B : Nat → Int) (n : Nat) (T : Int) (u : Nat) (a b c d : Int) : Prop := (0 < b ∧ 0 ≤ a ∧ 0 < d ∧ c ≤ T * d ∧ a * d ≤ c * b) ∧ bstAt A B n u a b ∧ bstAt A B n u c d ∧ ∀ x y : Int, 0 < y → 0 ≤ x → x ≤ T * y → bstAt A B n u x y → a * y ≤ x * b ∧ x * d ≤ c * y
theorem SPI_0 {A B : Nat → Int} {T : Int} {u : Nat} : SPI A B T u 0 0 1 T 1 := ⟨⟨by omega, by omega, by omega, by omega⟩, fun j h => absurd h (Nat.not_lt_zero _), Or.inl ⟨rfl, rfl⟩, Or.inl ⟨rfl, rfl⟩⟩
/-- a greater under, with the one of the two that is less -/
theorem fr_le_tr {a b c d x y : Int} (hb : 0 < b) (hd : 0 < d) (hy : 0 < y) (h1 : a * d ≤ c * b) (h2 : c * y ≤ x * d) : a * y ≤ x * b := by
  have e1 : a * d * y ≤ c * b * y := Int.mul_le_mul_of_nonneg_right h1 (by omega)
  have e2 : c * y * b ≤ x * d * b := Int.mul_le_mul_of_nonneg_right h2 (by omega)
  have e3 : (a * y) * d ≤ (x * b) * d := by
    rw [Int.mul_right_comm a y d, Int.mul_right_comm x b d]
    rw [Int.mul_right_comm c b y] at e1
    omega
  exact Int.le_of_mul_le_mul_right e3 hd
theorem bst_r {au bu aj bj x y : Int} : au * y + bu * x ≤ aj * y + bj * x ↔ x * (bu - bj) ≤ (aj - au) * y := by
  rw [Int.mul_sub, Int.sub_mul, Int.mul_comm x, Int.mul_comm x]; omega
theorem bst_l {au bu aj bj x y : Int} : au * y + bu * x ≤ aj * y + bj * x ↔ (au - aj) * y ≤ x * (bj - bu) := by
  rw [Int.mul_sub, Int.sub_mul, Int.mul_comm x, Int.mul_comm x]; omega
theorem SPI_no {A B : Nat → Int} {T : Int} {u i : Nat} {a b c d : Int} (h : SPI A B T u i a b c d) (h1 : ¬ (B u = B i ∧ A i < A u)) (h2 : ¬ (0 < B u - B i ∧ (A i - A u) * d < c * (B u - B i))) (h3 : ¬ (B u - B i < 0 ∧ a * -(B u - B i) < -(A i - A u) * b)) : SPI A B T u (i + 1) a b c d := by
  obtain ⟨g1, g2, g3, g4⟩ := h
  rw [show -(B u - B i) = B i - B u by omega, show -(A i - A u) = A u - A i by omega] at h3
  refine ⟨g1, fun j hj => ?_, ?_, ?_⟩
  · by_cases e : j = i
    · subst e; clear g2 g3 g4; exact ⟨fun _ => by omega, fun _ => by omega, fun _ => by omega⟩
    · exact g2 j (by omega)
  · rcases g3 with g | ⟨j, hj, g⟩
    · exact Or.inl g
    · exact Or.inr ⟨j, by omega, g⟩
  · rcases g4 with g | ⟨j, hj, g⟩
    · exact Or.inl g
    · exact Or.inr ⟨j, by omega, g⟩
theorem SPI_to {A B : Nat → Int} {T : Int} {u i : Nat} {a b c d : Int} (h : SPI A B T u i a b c d) (h1 : 0 < B u - B i) (h2 : (A i - A u) * d < c * (B u - B i)) : SPI A B T u (i + 1) a b (A i - A u) (B u - B i) := by
  obtain ⟨g1, g2, g3, g4⟩ := h
  refine ⟨⟨g1.1, g1.2.1, h1, ?_⟩, fun j hj => ?_, ?_, Or.inr ⟨i, by omega, by omega, rfl, rfl⟩⟩
  · have := fr_le_tr (a := A i - A u) (b := B u - B i) (c := c) (d := d) (x := T) (y := 1) h1 g1.2.2.1 (by omega) (by omega) (by have := g1.2.2.2; omega)
    omega
  · by_cases e : j = i
    · subst e; clear g2 g3 g4; exact ⟨fun _ => by omega, fun _ => Int.le_refl _, fun _ => by omega⟩
    · refine ⟨(g2 j (by omega)).1, fun hl => ?_, (g2 j (by omega)).2.2⟩
      exact fr_le_tr h1 g1.2.2.1 (by omega) (by omega) ((g2 j (by omega)).2.1 hl)
  · rcases g3 with g | ⟨j, hj, g⟩
    · exact Or.inl g
    · exact Or.inr ⟨j, by omega, g⟩
theorem SPI_fr {A B : Nat → Int} {T : Int} {u i : Nat} {a b c d : Int} (h : SPI A B T u i a b c d) (h1 : B u - B i < 0) (h2 : a * -(B u - B i) < -(A i - A u) * b) : SPI A B T u (i + 1) (-(A i - A u)) (-(B u - B i)) c d := by
  obtain ⟨g1, g2, g3, g4⟩ := h
  rw [show -(B u - B i) = B i - B u by omega, show -(A i - A u) = A u - A i by omega] at *
  have hp : 0 ≤ A u - A i := by
    rcases Int.lt_or_le (A u - A i) 0 with hq | hq
    · exfalso
      have e1 : 0 ≤ a * (B i - B u) := Int.mul_nonneg g1.2.1 (by omega)
      have e2 : (A u - A i) * b ≤ 0 := Int.mul_nonpos_of_nonpos_of_nonneg (by omega) (by omega)
      omega
    · exact hq
  refine ⟨⟨by omega, hp, g1.2.2⟩, fun j hj => ?_, Or.inr ⟨i, by omega, by omega, rfl, rfl⟩, ?_⟩
  · by_cases e : j = i
    · subst e; clear g2 g3 g4; exact ⟨fun _ => by omega, fun _ => by omega, fun _ => Int.le_refl _⟩
    · refine ⟨(g2 j (by omega)).1, (g2 j (by omega)).2.1, fun hl => ?_⟩
      exact fr_le_tr (by omega) g1.1 (by omega) ((g2 j (by omega)).2.2 hl) (by omega)
  · rcases g4 with g | ⟨j, hj, g⟩
    · exact Or.inl g
    · exact Or.inr ⟨j, by omega, g⟩
theorem SPI_far {A B : Nat → Int} {T : Int} {u n : Nat} {a b c d x y : Int} (h : SPI A B T u n a b c d) (hy : 0 < y) (hx : 0 ≤ x) (hT : x ≤ T * y) (hb : bstAt A B n u x y) : a * y ≤ x * b ∧ x * d ≤ c * y := by
  obtain ⟨g1, g2, g3, g4⟩ := h
  refine ⟨?_, ?_⟩
  · rcases g3 with ⟨e1, e2⟩ | ⟨j, hj, g, e1, e2⟩
    · rw [e1, e2]; omega
    · rw [e1, e2]; exact bst_l.mp (hb j hj)
  · rcases g4 with ⟨e1, e2⟩ | ⟨j, hj, g, e1, e2⟩
    · rw [e1, e2]; omega
    · rw [e1, e2]; exact bst_r.mp (hb j hj)
theorem SPI_yes {A B : Nat → Int} {T : Int} {u n : Nat} {a b c d : Int} (h : SPI A B T u n a b c d) (hl : a * d ≤ c * b) : SPR A B n T u a b c d := by
  have hh := h
  obtain ⟨g1, g2, g3, g4⟩ := h
  refine ⟨⟨g1.1, g1.2.1, g1.2.2.1, g1.2.2.2, hl⟩, fun j hj => ?_, fun j hj => ?_, fun x y hy hx hT hb => SPI_far hh hy hx hT hb⟩
  · rcases Int.lt_trichotomy (B u) (B j) with q | q | q
    · exact bst_l.mpr ((g2 j hj).2.2 q)
    · rw [q]; have := Int.mul_le_mul_of_nonneg_right ((g2 j hj).1 q) (Int.le_of_lt g1.1); omega
    · exact bst_r.mpr (fr_le_tr g1.1 g1.2.2.1 (by omega) hl ((g2 j hj).2.1 q))
  · rcases Int.lt_trichotomy (B u) (B j) with q | q | q
    · exact bst_l.mpr (fr_le_tr (by omega) g1.1 g1.2.2.1 ((g2 j hj).2.2 q) hl)
    · rw [q]; have := Int.mul_le_mul_of_nonneg_right ((g2 j hj).1 q) (Int.le_of_lt g1.2.2.1); omega
    · exact bst_r.mpr ((g2 j hj).2.1 q)
theorem SPI_not {A B : Nat → Int} {T : Int} {u n : Nat} {a b c d : Int} (h : SPI A B T u n a b c d) (hl : ¬ a * d ≤ c * b) : nowR A B n T u := by
  intro x y hy hx hT hb
  have := SPI_far h hy hx hT hb
  exact hl (fr_le_tr h.1.1 hy h.1.2.2.1 this.1 this.2)
theorem nowR_1 {A B : Nat → Int} {T : Int} {u i n : Nat} (hi : i < n) (h1 : B u = B i) (h2 : A i < A u) : nowR A B n T u := by
  intro x y hy hx hT hb
  have := hb i hi
  rw [h1] at this
  have h3 : A i * y < A u * y := Int.mul_lt_mul_of_pos_right h2 hy
  omega
noncomputable def cnP (Q : Nat → Prop) (n : Nat) : Int := @cnw Q (fun _ => Classical.propDecidable _) n
theorem cnP_in {Q : Nat → Prop} {i : Nat} {z : Int} (hz : z = cnP Q i) (h : Q i) : z + 1 = cnP Q (i + 1) := @cnw_in Q (fun _ => Classical.propDecidable _) i z hz h
theorem cnP_out {Q : Nat → Prop} {i : Nat} {z : Int} (hz : z = cnP Q i) (h : ¬ Q i) : z = cnP Q (i + 1) := @cnw_out Q (fun _ => Classical.propDecidable _) i z hz h
theorem SPR_now {A B : Nat → Int} {T : Int} {u n : Nat} {a b c d : Int} (h : SPR A B n T u a b c d) : ¬ nowR A B n T u := by
  obtain ⟨⟨h1, h2, h3, h4, h5⟩, h6, h7, h8⟩ := h
  intro hn
  refine hn a b h1 h2 ?_ h6
  have := fr_le_tr (x := T) (y := 1) h1 h3 (by omega) h5 (by omega)
  omega
