theorem CA_find {k nl nt nb : Nat} {σ κ ρ κ2 : AS} {n c n2 : Nat} {sg f g sg2 : Int} (h : CA k nl nt nb σ κ ρ n c sg f g) (hq : CL k nl nt nb σ κ2 n2 sg2) (hu : f = 1 → κ2 = κ ∧ n2 = n ∧ sg2 = sg) : CA k nl nt nb σ κ2 ρ n2 c sg2 1 g := by
  refine ⟨Or.inr ⟨rfl, hq⟩, ?_⟩
  rcases h.2 with h2 | ⟨h2, h3, h4⟩
  · exact Or.inl h2
  · obtain ⟨e1, e2, e3⟩ := hu h3
    rw [e1, e2, e3]
    exact Or.inr ⟨h2, rfl, h4⟩
theorem sdiff_pow {a n : Nat} : sdiff a (2 ^ n - 1) = 0 ↔ a < 2 ^ n := by
  rw [sdiff_0]
  constructor
  · intro h
    apply Nat.lt_pow_two_of_testBit
    intro i hi
    cases hb : a.testBit i
    · rfl
    · have := h i hb
      rw [Nat.testBit_two_pow_sub_one] at this
      have := of_decide_eq_true this
      omega
  · intro h i hb
    rw [Nat.testBit_two_pow_sub_one]
    refine decide_eq_true ?_
    rcases Nat.lt_or_ge i n with hq | hq
    · exact hq
    · rw [Nat.testBit_lt_two_pow (Nat.lt_of_lt_of_le h (Nat.pow_le_pow_right (by decide) hq))] at hb
      cases hb
def grw (bt fp : Nat → Int) : Nat → Bool
  | 0 => true
  | i + 1 => grw bt fp i && decide (sdiff (bt (fp i).toNat).toNat (bt (fp (i + 1)).toNat).toNat = 0)
theorem grw_t {bt fp : Nat → Int} {i : Nat} (h : grw bt fp i = true) (h1 : sdiff (bt (fp i).toNat).toNat (bt (fp (i + 1)).toNat).toNat = 0) : grw bt fp (i + 1) = true := by
  rw [show grw bt fp (i + 1) = (grw bt fp i && decide (sdiff (bt (fp i).toNat).toNat (bt (fp (i + 1)).toNat).toNat = 0)) from rfl, h]
  simp [h1]
theorem grw_f {bt fp : Nat → Int} {i : Nat} (h1 : sdiff (bt (fp i).toNat).toNat (bt (fp (i + 1)).toNat).toNat ≠ 0) : ∀ c, i < c → grw bt fp c = false := by
  intro c
  induction c with
  | zero => intro h; omega
  | succ c ih =>
    intro h
    rw [show grw bt fp (c + 1) = (grw bt fp c && decide (sdiff (bt (fp c).toNat).toNat (bt (fp (c + 1)).toNat).toNat = 0)) from rfl]
    rcases Nat.lt_or_ge i c with hq | hq
    · rw [ih hq]; rfl
    · have e : i = c := by omega
      subst e
      simp [h1]
theorem CL_bt {k nl nt nb : Nat} {σ κ : AS} {n : Nat} {sg : Int} (h : CL k nl nt nb σ κ n sg) : ∀ j : Nat, j < n → 0 ≤ κ 1 j ∧ κ 1 j < 65536 := by
  obtain ⟨xs, hl, hls, ho, hp, hb, hab, hsg⟩ := h
  intro j hj
  rw [hls j (by omega)]
  have := hb _ (List.getElem_mem (show j < xs.length by omega))
  omega
