/-! the asking calls -/
theorem I_find {k nl nt nb : Nat} {σ κ ρ κ2 : AS} {n c n2 : Nat} {sg f g sg2 : Int} (hI : INV k nl nt nb σ κ ρ n c sg f g) (hq : CL k nl nt nb σ κ2 n2 sg2) (hu : f = 1 → κ2 = κ ∧ n2 = n ∧ sg2 = sg) : INV k nl nt nb σ κ2 ρ n2 c sg2 1 g := ⟨hI.1, CA_find hI.2 hq hu⟩
theorem I_cut {k nl nt nb : Nat} {σ κ ρ κ2 ρ2 : AS} {n c n2 c2 : Nat} {sg f g sg2 : Int} (hI : INV k nl nt nb σ κ ρ n c sg f g) (hq : CL k nl nt nb σ κ2 n2 sg2) (hc : CP σ κ2 ρ2 n2 c2 sg2) : INV k nl nt nb σ κ2 ρ2 n2 c2 sg2 1 1 := ⟨hI.1, Or.inr ⟨rfl, hq⟩, Or.inr ⟨rfl, rfl, hc⟩⟩
theorem tlo_if {σ σ2 : AS} {C : Prop} [Decidable C] {r u v x y : Int} (h : (r, σ2) = if C then (u, σ) else (v, tl σ x y)) : TLo σ σ2 := by
  split at h
  · exact Or.inl (congrArg Prod.snd h)
  · exact Or.inr ⟨x, y, congrArg Prod.snd h⟩
theorem tlo_c {σ σ2 : AS} {r u x y : Int} (h : (r, σ2) = (u, tl σ x y)) : TLo σ σ2 := Or.inr ⟨x, y, congrArg Prod.snd h⟩
theorem tlo_s {σ σ2 : AS} {r u : Int} (h : (r, σ2) = (u, σ)) : TLo σ σ2 := Or.inl (congrArg Prod.snd h)

theorem K_bestAt {k nl nt nb : Nat} {σ κ ρ : AS} {n c : Nat} {sg f g : Int} {r r' p q f2 : Int} {σ2 σ3 κ2 μ2 : AS} {n2 mn2 : Nat} {sg2 : Int} (hI : INV k nl nt nb σ κ ρ n c sg f g) (h1 : (¬ (0 ≤ p ∧ 1 ≤ q ∧ q ≤ 1000 ∧ p ≤ σ 0 0 * q) ∧ r = -2 ∧ σ2 = σ ∧ f2 = f ∧ κ2 = κ ∧ n2 = n ∧ sg2 = sg) ∨ ((0 ≤ p ∧ 1 ≤ q ∧ q ≤ 1000 ∧ p ≤ σ 0 0 * q) ∧ f2 = 1 ∧ CL k nl nt nb σ κ2 n2 sg2 ∧ (f = 1 → κ2 = κ ∧ n2 = n ∧ sg2 = sg) ∧ (r, σ2) = qBest n2 (κ2 1) (κ2 2) (κ2 3) sg2 σ p q)) (h2 : (¬ (1 ≤ q ∧ q ≤ 1000 ∧ 0 ≤ p ∧ p ≤ σ 0 0 * q) ∧ r' = -2 ∧ σ3 = σ) ∨ ((1 ≤ q ∧ q ≤ 1000 ∧ 0 ≤ p ∧ p ≤ σ 0 0 * q) ∧ LO k nl nt nb σ μ2 mn2 ∧ (r', σ3) = rBest k mn2 (μ2 2) (μ2 3) (μ2 4) σ p q)) : r' = r ∧ σ3 = σ2 ∧ INV k nl nt nb σ2 κ2 ρ n2 c sg2 f2 g := by
  rcases h1 with ⟨no, er, es, e1, e2, e3, e4⟩ | ⟨ok, e1, hq, hu, hr⟩
  · rcases h2 with ⟨no2, er2, es2⟩ | ⟨ok2, _⟩
    · subst es; subst e1; subst e2; subst e3; subst e4
      exact ⟨by omega, es2, hI⟩
    · exact absurd ok2 (fun hh => no (by omega))
  · rcases h2 with ⟨no2, _⟩ | ⟨ok2, hl, hr2⟩
    · exact absurd ok (fun hh => no2 (by omega))
    · obtain ⟨em, esg, hm⟩ := both hI.1 hq hl
      subst em; subst e1
      rw [qr_best esg hm] at hr2
      obtain ⟨a1, a2⟩ := pr_eq hr hr2
      refine ⟨a1, a2, INV_tl (I_find hI hq hu) ?_⟩
      unfold qBest at hr
      exact tlo_if hr
theorem K_tol {k nl nt nb : Nat} {σ κ ρ : AS} {n c : Nat} {sg f g : Int} {r r' u t w f2 : Int} {σ2 σ3 κ2 μ2 : AS} {n2 mn2 : Nat} {sg2 : Int} (hI : INV k nl nt nb σ κ ρ n c sg f g) (h1 : (¬ ((0 ≤ u ∧ u < ((npF k nl nt nb : Nat) : Int)) ∧ (0 ≤ t ∧ t ≤ σ 0 0) ∧ (0 ≤ w ∧ w < 2)) ∧ r = -2 ∧ σ2 = σ ∧ f2 = f ∧ κ2 = κ ∧ n2 = n ∧ sg2 = sg) ∨ (((0 ≤ u ∧ u < ((npF k nl nt nb : Nat) : Int)) ∧ (0 ≤ t ∧ t ≤ σ 0 0) ∧ (0 ≤ w ∧ w < 2)) ∧ f2 = 1 ∧ CL k nl nt nb σ κ2 n2 sg2 ∧ (f = 1 → κ2 = κ ∧ n2 = n ∧ sg2 = sg) ∧ (r, σ2) = qTol n2 (κ2 1) (κ2 2) (κ2 3) sg2 σ u.toNat t w)) (h2 : (¬ ((0 ≤ u ∧ u < ((npF k nl nt nb : Nat) : Int)) ∧ (0 ≤ t ∧ t ≤ σ 0 0) ∧ (0 ≤ w ∧ w ≤ 1)) ∧ r' = -2 ∧ σ3 = σ) ∨ (((0 ≤ u ∧ u < ((npF k nl nt nb : Nat) : Int)) ∧ (0 ≤ t ∧ t ≤ σ 0 0) ∧ (0 ≤ w ∧ w ≤ 1)) ∧ LO k nl nt nb σ μ2 mn2 ∧ (r', σ3) = rTol k mn2 (μ2 2) (μ2 3) (μ2 4) σ u.toNat t w)) : r' = r ∧ σ3 = σ2 ∧ INV k nl nt nb σ2 κ2 ρ n2 c sg2 f2 g := by
  rcases h1 with ⟨no, er, es, e1, e2, e3, e4⟩ | ⟨ok, e1, hq, hu, hr⟩
  · rcases h2 with ⟨no2, er2, es2⟩ | ⟨ok2, _⟩
    · subst es; subst e1; subst e2; subst e3; subst e4
      exact ⟨by omega, es2, hI⟩
    · exact absurd ok2 (fun hh => no (by omega))
  · rcases h2 with ⟨no2, _⟩ | ⟨ok2, hl, hr2⟩
    · exact absurd ok (fun hh => no2 (by omega))
    · obtain ⟨em, esg, hm⟩ := both hI.1 hq hl
      subst em; subst e1
      rw [qr_tol esg hm] at hr2
      obtain ⟨a1, a2⟩ := pr_eq hr hr2
      refine ⟨a1, a2, INV_tl (I_find hI hq hu) ?_⟩
      unfold qTol at hr
      split at hr
      · exact tlo_s hr
      · exact tlo_if hr
theorem K_ratio {k nl nt nb : Nat} {σ κ ρ : AS} {n c : Nat} {sg f g : Int} {r r' : Int} {σ2 σ3 κ2 μ2 : AS} {n2 mn2 : Nat} {sg2 : Int} (hI : INV k nl nt nb σ κ ρ n c sg f g) (h1 : CL k nl nt nb σ κ2 n2 sg2 ∧ (f = 1 → κ2 = κ ∧ n2 = n ∧ sg2 = sg) ∧ (r, σ2) = qRatio n2 (κ2 1) (κ2 2) (κ2 3) sg2 σ) (h2 : LO k nl nt nb σ μ2 mn2 ∧ (r', σ3) = rRat k mn2 (μ2 2) (μ2 3) (μ2 4) σ) : r' = r ∧ σ3 = σ2 ∧ INV k nl nt nb σ2 κ2 ρ n2 c sg2 1 g := by
  obtain ⟨hq, hu, hr⟩ := h1
  obtain ⟨hl, hr2⟩ := h2
  obtain ⟨em, esg, hm⟩ := both hI.1 hq hl
  subst em
  rw [qr_rat esg hm] at hr2
  obtain ⟨a1, a2⟩ := pr_eq hr hr2
  refine ⟨a1, a2, INV_tl (I_find hI hq hu) ?_⟩
  unfold qRatio at hr
  exact tlo_if hr
theorem K_rue {k nl nt nb : Nat} {σ κ ρ : AS} {n c : Nat} {sg f g : Int} {r r' : Int} {σ2 σ3 κ2 μ2 : AS} {n2 mn2 : Nat} {sg2 : Int} (hI : INV k nl nt nb σ κ ρ n c sg f g) (h1 : CL k nl nt nb σ κ2 n2 sg2 ∧ (f = 1 → κ2 = κ ∧ n2 = n ∧ sg2 = sg) ∧ (r, σ2) = qRue n2 (κ2 1) (κ2 2) (κ2 3) sg2 (σ 0 0) σ) (h2 : LO k nl nt nb σ μ2 mn2 ∧ (r', σ3) = rRue mn2 (μ2 2) (μ2 3) (μ2 4) (σ 0 0) σ) : r' = r ∧ σ3 = σ2 ∧ INV k nl nt nb σ2 κ2 ρ n2 c sg2 1 g := by
  obtain ⟨hq, hu, hr⟩ := h1
  obtain ⟨hl, hr2⟩ := h2
  obtain ⟨em, esg, hm⟩ := both hI.1 hq hl
  subst em
  rw [qr_rue hm] at hr2
  obtain ⟨a1, a2⟩ := pr_eq hr hr2
  refine ⟨a1, a2, INV_tl (I_find hI hq hu) ?_⟩
  unfold qRue at hr
  exact tlo_if hr
theorem K_pace {k nl nt nb : Nat} {σ κ ρ : AS} {n c : Nat} {sg f g : Int} {r r' : Int} {κ2 μ2 : AS} {n2 mn2 : Nat} {sg2 : Int} (hI : INV k nl nt nb σ κ ρ n c sg f g) (h1 : CL k nl nt nb σ κ2 n2 sg2 ∧ (f = 1 → κ2 = κ ∧ n2 = n ∧ sg2 = sg) ∧ r = if n2 = 0 then -3 else pcn (bpl n2 (κ2 2) (κ2 3) sg2) (σ 0 0).toNat) (h2 : LO k nl nt nb σ μ2 mn2 ∧ r' = if mn2 = 0 then -3 else pcn (fun t_ : Nat => best (tAt (μ2 3) (μ2 4) (t_ : Int) 1) mn2) (σ 0 0).toNat) : r' = r ∧ INV k nl nt nb σ κ2 ρ n2 c sg2 1 g := by
  obtain ⟨hq, hu, hr⟩ := h1
  obtain ⟨hl, hr2⟩ := h2
  obtain ⟨em, esg, hm⟩ := both hI.1 hq hl
  subst em
  rw [qr_pace hm] at hr2
  exact ⟨by rw [hr, hr2], I_find hI hq hu⟩
theorem K_pieces {k nl nt nb : Nat} {σ κ ρ : AS} {n c : Nat} {sg f g : Int} {r r'  f2 g2 : Int} {κ2 ρ2 μ2 : AS} {n2 c2 mn2 pm2 : Nat} {sg2 : Int} (hI : INV k nl nt nb σ κ ρ n c sg f g) (h1 : f2 = 1 ∧ g2 = 1 ∧ CL k nl nt nb σ κ2 n2 sg2 ∧ CP σ κ2 ρ2 n2 c2 sg2 ∧ r = (if c2 = 0 then -3 else (c2 : Int))) (h2 : LO k nl nt nb σ μ2 mn2 ∧ ((mn2 = 0 ∧ r' = -3) ∨ (0 < mn2 ∧ FPc σ μ2 mn2 pm2 ∧ r' = (pm2 : Int)))) : r' = r ∧ INV k nl nt nb σ κ2 ρ2 n2 c2 sg2 f2 g2 := by
  obtain ⟨e1, e2, hq, hc, hr⟩ := h1
  obtain ⟨hl, h2⟩ := h2
  obtain ⟨em, esg, hm⟩ := both hI.1 hq hl
  subst em; subst e1; subst e2
  refine ⟨?_, I_cut hI hq hc⟩
  rcases h2 with ⟨h0, hr2⟩ | ⟨h0, hf, hr2⟩
  · subst h0
    rw [hr, hr2, if_pos (CP_0 hc)]
  · obtain ⟨g1, g2, -⟩ := pcs hm h0 hc hf
    rw [hr, hr2, if_neg (by omega), g1]
theorem K_piece {k nl nt nb : Nat} {σ κ ρ : AS} {n c : Nat} {sg f g : Int} {r r' i w f2 g2 : Int} {κ2 ρ2 μ2 : AS} {n2 c2 mn2 pm2 : Nat} {sg2 : Int} (hI : INV k nl nt nb σ κ ρ n c sg f g) (h1 : (¬ (0 ≤ i ∧ 0 ≤ w ∧ w < 3) ∧ r = -100000 ∧ f2 = f ∧ g2 = g ∧ κ2 = κ ∧ ρ2 = ρ ∧ n2 = n ∧ c2 = c ∧ sg2 = sg) ∨ ((0 ≤ i ∧ 0 ≤ w ∧ w < 3) ∧ f2 = 1 ∧ g2 = 1 ∧ CL k nl nt nb σ κ2 n2 sg2 ∧ CP σ κ2 ρ2 n2 c2 sg2 ∧ r = qPiece n2 c2 (κ2 1) (κ2 2) (κ2 3) (ρ2 1) i w)) (h2 : (¬ (0 ≤ i ∧ 0 ≤ w ∧ w ≤ 2) ∧ r' = -100000) ∨ ((0 ≤ i ∧ 0 ≤ w ∧ w ≤ 2) ∧ LO k nl nt nb σ μ2 mn2 ∧ ((mn2 = 0 ∧ r' = -200000) ∨ (0 < mn2 ∧ FPc σ μ2 mn2 pm2 ∧ r' = rPc k (μ2 2) (μ2 3) (μ2 4) (μ2 5) pm2 i w)))) : r' = r ∧ INV k nl nt nb σ κ2 ρ2 n2 c2 sg2 f2 g2 := by
  rcases h1 with ⟨no, er, e1, e2, e3, e4, e5, e6, e7⟩ | ⟨ok, e1, e2, hq, hc, hr⟩
  · rcases h2 with ⟨no2, er2⟩ | ⟨ok2, _⟩
    · subst e1; subst e2; subst e3; subst e4; subst e5; subst e6; subst e7
      exact ⟨by omega, hI⟩
    · exact absurd ok2 (fun hh => no (by omega))
  · rcases h2 with ⟨no2, _⟩ | ⟨ok2, hl, h2⟩
    · exact absurd ok (fun hh => no2 (by omega))
    · obtain ⟨em, esg, hm⟩ := both hI.1 hq hl
      subst em; subst e1; subst e2
      refine ⟨?_, I_cut hI hq hc⟩
      rcases h2 with ⟨h0, hr2⟩ | ⟨h0, hf, hr2⟩
      · subst h0
        rw [hr, hr2]
        unfold qPiece
        rw [if_neg (by omega), if_pos (CP_0 hc)]
      · obtain ⟨g1, g2, g3, g4, g5, g6⟩ := pcs hm h0 hc hf
        subst g1
        rw [hr, hr2, qr_piece esg hm g2 g3 g6 ok]
theorem K_change {k nl nt nb : Nat} {σ κ ρ : AS} {n c : Nat} {sg f g : Int} {r r' i f2 g2 : Int} {σ2 σ3 κ2 ρ2 μ2 : AS} {n2 c2 mn2 pm2 : Nat} {sg2 : Int} (hI : INV k nl nt nb σ κ ρ n c sg f g) (h1 : (i < 0 ∧ r = -2 ∧ σ2 = σ ∧ f2 = f ∧ g2 = g ∧ κ2 = κ ∧ ρ2 = ρ ∧ n2 = n ∧ c2 = c ∧ sg2 = sg) ∨ (0 ≤ i ∧ f2 = 1 ∧ g2 = 1 ∧ CL k nl nt nb σ κ2 n2 sg2 ∧ CP σ κ2 ρ2 n2 c2 sg2 ∧ (r, σ2) = qChange c2 (ρ2 2) (ρ2 3) σ i)) (h2 : (i < 0 ∧ r' = -2 ∧ σ3 = σ) ∨ (0 ≤ i ∧ LO k nl nt nb σ μ2 mn2 ∧ ((mn2 = 0 ∧ r' = -3 ∧ σ3 = σ) ∨ (0 < mn2 ∧ FPc σ μ2 mn2 pm2 ∧ (r', σ3) = if (pm2 : Int) ≤ i + 1 then (-2, σ) else (1, tl σ (μ2 6 (i + 1).toNat) (μ2 7 (i + 1).toNat)))))) : r' = r ∧ σ3 = σ2 ∧ INV k nl nt nb σ2 κ2 ρ2 n2 c2 sg2 f2 g2 := by
  rcases h1 with ⟨no, er, es, e1, e2, e3, e4, e5, e6, e7⟩ | ⟨ok, e1, e2, hq, hc, hr⟩
  · rcases h2 with ⟨no2, er2, es2⟩ | ⟨ok2, _⟩
    · subst es; subst e1; subst e2; subst e3; subst e4; subst e5; subst e6; subst e7
      exact ⟨by omega, es2, hI⟩
    · exact absurd ok2 (fun hh => by omega)
  · rcases h2 with ⟨no2, _⟩ | ⟨ok2, hl, h2⟩
    · exact absurd ok (fun hh => by omega)
    · obtain ⟨em, esg, hm⟩ := both hI.1 hq hl
      subst em; subst e1; subst e2
      unfold qChange at hr
      rw [if_neg (by omega)] at hr
      rcases h2 with ⟨h0, hr2, hs2⟩ | ⟨h0, hf, hr2⟩
      · subst h0
        rw [if_pos (CP_0 hc)] at hr
        obtain ⟨b1, b2⟩ : r = -3 ∧ σ2 = σ := ⟨congrArg Prod.fst hr, congrArg Prod.snd hr⟩
        subst b2
        exact ⟨by omega, hs2, I_cut hI hq hc⟩
      · obtain ⟨g1, g2, g3, g4, g5, g6⟩ := pcs hm h0 hc hf
        subst g1
        rw [if_neg (by omega)] at hr
        by_cases hi : (pm2 : Int) ≤ i + 1
        · rw [if_pos hi] at hr hr2
          obtain ⟨a1, a2⟩ := pr_eq hr hr2
          exact ⟨a1, a2, INV_tl (I_cut hI hq hc) (tlo_s hr)⟩
        · rw [if_neg hi] at hr hr2
          rw [(g3 (i + 1).toNat (by omega)).2.1, (g3 (i + 1).toNat (by omega)).2.2] at hr2
          obtain ⟨a1, a2⟩ := pr_eq hr hr2
          exact ⟨a1, a2, INV_tl (I_cut hI hq hc) (tlo_c hr)⟩
theorem K_highest {k nl nt nb : Nat} {σ κ ρ : AS} {n c : Nat} {sg f g : Int} {r r' w f2 g2 : Int} {σ2 σ3 κ2 ρ2 μ2 : AS} {n2 c2 mn2 pm2 : Nat} {sg2 : Int} (hI : INV k nl nt nb σ κ ρ n c sg f g) (h1 : (¬ (0 ≤ w ∧ w < 2) ∧ r = -2 ∧ σ2 = σ ∧ f2 = f ∧ g2 = g ∧ κ2 = κ ∧ ρ2 = ρ ∧ n2 = n ∧ c2 = c ∧ sg2 = sg) ∨ ((0 ≤ w ∧ w < 2) ∧ f2 = 1 ∧ g2 = 1 ∧ CL k nl nt nb σ κ2 n2 sg2 ∧ CP σ κ2 ρ2 n2 c2 sg2 ∧ (r, σ2) = qHigh c2 (bsum (κ2 2) (κ2 3) (ρ2 1) (ρ2 2) (ρ2 3) c2) (ρ2 2) (ρ2 3) σ w)) (h2 : (¬ (0 ≤ w ∧ w ≤ 1) ∧ r' = -2 ∧ σ3 = σ) ∨ ((0 ≤ w ∧ w ≤ 1) ∧ LO k nl nt nb σ μ2 mn2 ∧ ((mn2 = 0 ∧ r' = -3 ∧ σ3 = σ) ∨ (0 < mn2 ∧ FPc σ μ2 mn2 pm2 ∧ (r', σ3) = if w = 0 then (1, tl σ (rP σ μ2 pm2 (hend (rV k σ μ2 pm2) (rQ μ2 pm2) pm2)) (rQ μ2 pm2 (hend (rV k σ μ2 pm2) (rQ μ2 pm2) pm2))) else (1, tl σ (rV k σ μ2 pm2 (hend (rV k σ μ2 pm2) (rQ μ2 pm2) pm2)) (rQ μ2 pm2 (hend (rV k σ μ2 pm2) (rQ μ2 pm2) pm2))))))) : r' = r ∧ σ3 = σ2 ∧ INV k nl nt nb σ2 κ2 ρ2 n2 c2 sg2 f2 g2 := by
  rcases h1 with ⟨no, er, es, e1, e2, e3, e4, e5, e6, e7⟩ | ⟨ok, e1, e2, hq, hc, hr⟩
  · rcases h2 with ⟨no2, er2, es2⟩ | ⟨ok2, _⟩
    · subst es; subst e1; subst e2; subst e3; subst e4; subst e5; subst e6; subst e7
      exact ⟨by omega, es2, hI⟩
    · exact absurd ok2 (fun hh => no (by omega))
  · rcases h2 with ⟨no2, _⟩ | ⟨ok2, hl, h2⟩
    · exact absurd ok (fun hh => no2 (by omega))
    · obtain ⟨em, esg, hm⟩ := both hI.1 hq hl
      subst em; subst e1; subst e2
      unfold qHigh at hr
      rw [if_neg (by omega)] at hr
      rcases h2 with ⟨h0, hr2, hs2⟩ | ⟨h0, hf, hr2⟩
      · subst h0
        rw [if_pos (CP_0 hc)] at hr
        obtain ⟨b1, b2⟩ : r = -3 ∧ σ2 = σ := ⟨congrArg Prod.fst hr, congrArg Prod.snd hr⟩
        subst b2
        exact ⟨by omega, hs2, I_cut hI hq hc⟩
      · obtain ⟨g1, g2, g3, g4, g5, g6⟩ := pcs hm h0 hc hf
        subst g1
        have hv := rV_bsum (σ := σ) esg hm g2 g3 g6 g4 g5
        have hh : hend (rV k σ μ2 pm2) (rQ μ2 pm2) pm2 = hend (bsum (κ2 2) (κ2 3) (ρ2 1) (ρ2 2) (ρ2 3) pm2) (ρ2 3) pm2 := hend_congr pm2 (fun i hi => ⟨(hv i hi).2.2, (hv i hi).2.1⟩)
        have hl2 := hend_le (v := bsum (κ2 2) (κ2 3) (ρ2 1) (ρ2 2) (ρ2 3) pm2) (q := ρ2 3) pm2
        rw [hh, (hv _ hl2).1, (hv _ hl2).2.1, (hv _ hl2).2.2] at hr2
        rw [if_neg (by omega)] at hr
        by_cases hw : w = 0
        · rw [if_pos hw] at hr hr2
          obtain ⟨a1, a2⟩ := pr_eq hr hr2
          exact ⟨a1, a2, INV_tl (I_cut hI hq hc) (tlo_c hr)⟩
        · rw [if_neg hw] at hr hr2
          obtain ⟨a1, a2⟩ := pr_eq hr hr2
          exact ⟨a1, a2, INV_tl (I_cut hI hq hc) (tlo_c hr)⟩
theorem K_grown {k nl nt nb : Nat} {σ κ ρ : AS} {n c : Nat} {sg f g : Int} {r r'  f2 g2 : Int} {κ2 ρ2 μ2 : AS} {n2 c2 mn2 pm2 : Nat} {sg2 : Int} (hI : INV k nl nt nb σ κ ρ n c sg f g) (h1 : (k ≠ 4 ∧ r = -3 ∧ f2 = f ∧ g2 = g ∧ κ2 = κ ∧ ρ2 = ρ ∧ n2 = n ∧ c2 = c ∧ sg2 = sg) ∨ (k = 4 ∧ f2 = 1 ∧ g2 = 1 ∧ CL k nl nt nb σ κ2 n2 sg2 ∧ CP σ κ2 ρ2 n2 c2 sg2 ∧ r = bI (grw (κ2 1) (ρ2 1) (c2 - 1) = true))) (h2 : (k ≠ 4 ∧ r' = -3) ∨ (k = 4 ∧ LO k nl nt nb σ μ2 mn2 ∧ 0 < mn2 ∧ FPc σ μ2 mn2 pm2 ∧ r' = bI (grw (μ2 2) (μ2 5) (pm2 - 1) = true))) : r' = r ∧ INV k nl nt nb σ κ2 ρ2 n2 c2 sg2 f2 g2 := by
  rcases h1 with ⟨no, er, e1, e2, e3, e4, e5, e6, e7⟩ | ⟨ok, e1, e2, hq, hc, hr⟩
  · rcases h2 with ⟨no2, er2⟩ | ⟨ok2, _⟩
    · subst e1; subst e2; subst e3; subst e4; subst e5; subst e6; subst e7
      exact ⟨by omega, hI⟩
    · exact absurd ok2 (fun hh => no hh)
  · rcases h2 with ⟨no2, _⟩ | ⟨ok2, hl, h2⟩
    · exact absurd ok (fun hh => no2 hh)
    · obtain ⟨em, esg, hm⟩ := both hI.1 hq hl
      subst em; subst e1; subst e2
      refine ⟨?_, I_cut hI hq hc⟩
      obtain ⟨h0, hf, hr2⟩ := h2
      obtain ⟨g1, g2, g3, g4, g5, g6⟩ := pcs hm h0 hc hf
      subst g1
      have hg : grw (μ2 2) (μ2 5) (pm2 - 1) = grw (κ2 1) (ρ2 1) (pm2 - 1) := grw_congr _ (fun i hi => by
        have hx := g6 i (by omega)
        rw [(g3 i (by omega)).1, (hm (ρ2 1 i).toNat (by omega)).1])
      rw [hr, hr2, hg]
theorem K_isPlan {k nl nt nb : Nat} {σ κ ρ : AS} {n c : Nat} {sg f g : Int} {r r' u f2 : Int} {κ2 : AS} {n2 : Nat} {sg2 : Int} (hI : INV k nl nt nb σ κ ρ n c sg f g) (h1 : (¬ (0 ≤ u ∧ u < ((2 ^ npF k nl nt nb : Nat) : Int)) ∧ r = -2 ∧ f2 = f ∧ κ2 = κ ∧ n2 = n ∧ sg2 = sg) ∨ ((0 ≤ u ∧ u < ((2 ^ npF k nl nt nb : Nat) : Int)) ∧ f2 = 1 ∧ CL k nl nt nb σ κ2 n2 sg2 ∧ (f = 1 → κ2 = κ ∧ n2 = n ∧ sg2 = sg) ∧ ((r = 1 ∧ ∃ j_ : Nat, j_ < n2 ∧ κ2 1 j_ = u) ∨ (r = 0 ∧ ∀ j_ : Nat, j_ < n2 → κ2 1 j_ ≠ u)))) (h2 : (¬ (0 ≤ u ∧ u < ((2 ^ npF k nl nt nb : Nat) : Int)) ∧ r' = -2) ∨ ((0 ≤ u ∧ u < ((2 ^ npF k nl nt nb : Nat) : Int)) ∧ r' = bI (fit k nl nt nb σ u.toNat = true))) : r' = r ∧ INV k nl nt nb σ κ2 ρ n2 c sg2 f2 g := by
  rcases h1 with ⟨no, er, e1, e2, e3, e4⟩ | ⟨ok, e1, hq, hu, hr⟩
  · rcases h2 with ⟨no2, er2⟩ | ⟨ok2, _⟩
    · subst e1; subst e2; subst e3; subst e4
      exact ⟨by omega, hI⟩
    · exact absurd ok2 no
  · rcases h2 with ⟨no2, _⟩ | ⟨ok2, hr2⟩
    · exact absurd ok no2
    · subst e1
      refine ⟨?_, I_find hI hq hu⟩
      obtain ⟨hl, hls, -, -⟩ := CL_PLs hI.1 hq
      have hx : u.toNat ∈ PLs k nl nt nb σ ↔ fit k nl nt nb σ u.toNat = true := by
        unfold PLs
        rw [List.mem_filter, List.mem_range]
        exact ⟨fun h => h.2, fun h => ⟨by omega, h⟩⟩
      rw [hr2]
      rcases hr with ⟨er, j, hj, ej⟩ | ⟨er, hno⟩
      · rw [er]
        refine bI_t (hx.mp ?_)
        have h3 := hls j (by omega)
        rw [ej] at h3
        rw [show u.toNat = (PLs k nl nt nb σ)[j]'(by omega) by omega]
        exact List.getElem_mem _
      · rw [er]
        refine bI_f (fun hh => ?_)
        obtain ⟨j, hj, e⟩ := List.mem_iff_getElem.mp (hx.mpr hh)
        refine hno j (by omega) ?_
        rw [hls j hj, e]; omega
theorem K_plans {k nl nt nb : Nat} {σ κ ρ : AS} {n c : Nat} {sg f g : Int} {r r' w f2 g2 : Int} {κ2 ρ2 μ2 : AS} {n2 c2 mn2 : Nat} {sg2 : Int} (hI : INV k nl nt nb σ κ ρ n c sg f g) (h1 : (¬ (0 ≤ w ∧ w < 2) ∧ r = -2 ∧ f2 = f ∧ g2 = g ∧ κ2 = κ ∧ ρ2 = ρ ∧ n2 = n ∧ c2 = c ∧ sg2 = sg) ∨ (w = 0 ∧ f2 = 1 ∧ g2 = g ∧ ρ2 = ρ ∧ c2 = c ∧ CL k nl nt nb σ κ2 n2 sg2 ∧ (f = 1 → κ2 = κ ∧ n2 = n ∧ sg2 = sg) ∧ r = (n2 : Int)) ∨ (w = 1 ∧ f2 = 1 ∧ g2 = 1 ∧ CL k nl nt nb σ κ2 n2 sg2 ∧ CP σ κ2 ρ2 n2 c2 sg2 ∧ r = nwc (κ2 2) (κ2 3) (ρ2 1) (ρ2 2) (ρ2 3) c2 n2)) (h2 : (¬ (0 ≤ w ∧ w ≤ 1) ∧ r' = -2) ∨ ((0 ≤ w ∧ w ≤ 1) ∧ LO k nl nt nb σ μ2 mn2 ∧ ((w = 0 ∧ r' = (mn2 : Int)) ∨ (w = 1 ∧ r' = cnP (nowR (μ2 3) (μ2 4) mn2 (σ 0 0)) mn2)))) : r' = r ∧ INV k nl nt nb σ κ2 ρ2 n2 c2 sg2 f2 g2 := by
  rcases h1 with ⟨no, er, e1, e2, e3, e4, e5, e6, e7⟩ | ⟨hw, e1, e2, e3, e4, hq, hu, hr⟩ | ⟨hw, e1, e2, hq, hc, hr⟩
  · rcases h2 with ⟨no2, er2⟩ | ⟨ok2, _⟩
    · subst e1; subst e2; subst e3; subst e4; subst e5; subst e6; subst e7
      exact ⟨by omega, hI⟩
    · exact absurd ok2 (by omega)
  · rcases h2 with ⟨no2, _⟩ | ⟨ok2, hl, h2⟩
    · exact absurd hw (by omega)
    · obtain ⟨em, esg, hm⟩ := both hI.1 hq hl
      subst em; subst e1; subst e2; subst e3; subst e4
      refine ⟨?_, I_find hI hq hu⟩
      rcases h2 with ⟨_, h2⟩ | ⟨h2, _⟩
      · rw [hr, h2]
      · omega
  · rcases h2 with ⟨no2, _⟩ | ⟨ok2, hl, h2⟩
    · exact absurd hw (by omega)
    · obtain ⟨em, esg, hm⟩ := both hI.1 hq hl
      subst em; subst e1; subst e2
      refine ⟨?_, I_cut hI hq hc⟩
      rcases h2 with ⟨h2, _⟩ | ⟨_, h2⟩
      · omega
      · rw [hr, h2]
        unfold cnP nwc
        rcases Nat.eq_zero_or_pos mn2 with h0 | h0
        · subst h0; rfl
        · refine @cnw_congr _ _ (fun _ => Classical.propDecidable _) _ mn2 (fun j hj => ?_)
          have hA : ∀ q : Nat, q < mn2 → μ2 3 q = (fun q => sg2 * κ2 2 q) q ∧ μ2 4 q = (fun q => sg2 * κ2 3 q) q := fun q hq => ⟨(hm q hq).2.1, (hm q hq).2.2⟩
          rw [now_congr hA hj]
          exact now_iff (sg_d esg) (SI_top hI.1).1 (CP_PCE hc h0) hj
theorem K_span {k nl nt nb : Nat} {σ κ ρ : AS} {n c : Nat} {sg f g : Int} {r r' u w f2 g2 : Int} {σ2 σ3 κ2 ρ2 μ2 : AS} {n2 c2 mn2 : Nat} {sg2 : Int} (hI : INV k nl nt nb σ κ ρ n c sg f g) (h1 : (¬ (0 ≤ w ∧ w < 2) ∧ r = -2 ∧ σ2 = σ ∧ f2 = f ∧ g2 = g ∧ κ2 = κ ∧ ρ2 = ρ ∧ n2 = n ∧ c2 = c ∧ sg2 = sg) ∨ ((0 ≤ w ∧ w < 2) ∧ f2 = 1 ∧ g2 = 1 ∧ CL k nl nt nb σ κ2 n2 sg2 ∧ CP σ κ2 ρ2 n2 c2 sg2 ∧ ((r = -2 ∧ σ2 = σ ∧ ∀ j_ : Nat, j_ < n2 → κ2 1 j_ ≠ u) ∨ ∃ u_ : Nat, u_ < n2 ∧ κ2 1 u_ = u ∧ ((r = 0 ∧ σ2 = σ ∧ ∀ j_ : Nat, j_ ≤ c2 → ¬ (κ2 2 u_ * ρ2 3 j_ + κ2 3 u_ * ρ2 2 j_ = bsum (κ2 2) (κ2 3) (ρ2 1) (ρ2 2) (ρ2 3) c2 j_)) ∨ ∃ e_ : Nat, e_ ≤ c2 ∧ r = (1 : Int) ∧ σ2 = tl σ (ρ2 2 e_) (ρ2 3 e_) ∧ (κ2 2 u_ * ρ2 3 e_ + κ2 3 u_ * ρ2 2 e_ = bsum (κ2 2) (κ2 3) (ρ2 1) (ρ2 2) (ρ2 3) c2 e_) ∧ ((w = 0 ∧ ∀ j_ : Nat, j_ < e_ → ¬ (κ2 2 u_ * ρ2 3 j_ + κ2 3 u_ * ρ2 2 j_ = bsum (κ2 2) (κ2 3) (ρ2 1) (ρ2 2) (ρ2 3) c2 j_)) ∨ (w = 1 ∧ ∀ j_ : Nat, e_ < j_ → j_ ≤ c2 → ¬ (κ2 2 u_ * ρ2 3 j_ + κ2 3 u_ * ρ2 2 j_ = bsum (κ2 2) (κ2 3) (ρ2 1) (ρ2 2) (ρ2 3) c2 j_))))))) (h2 : LO k nl nt nb σ μ2 mn2 ∧ ((¬ (0 ≤ w ∧ w ≤ 1) ∧ r' = -2 ∧ σ3 = σ) ∨ ((0 ≤ w ∧ w ≤ 1) ∧ ((r' = -2 ∧ σ3 = σ ∧ ∀ j_ : Nat, j_ < mn2 → μ2 2 j_ ≠ u) ∨ ∃ u_ : Nat, u_ < mn2 ∧ μ2 2 u_ = u ∧ ((r' = 0 ∧ σ3 = σ ∧ nowR (μ2 3) (μ2 4) mn2 (σ 0 0) u_) ∨ ∃ aa_ bb_ cc_ dd_ : Int, r' = 1 ∧ SPR (μ2 3) (μ2 4) mn2 (σ 0 0) u_ aa_ bb_ cc_ dd_ ∧ σ3 = if w = 0 then tl σ aa_ bb_ else tl σ cc_ dd_))))) : r' = r ∧ σ3 = σ2 ∧ INV k nl nt nb σ2 κ2 ρ2 n2 c2 sg2 f2 g2 := by
  obtain ⟨hl, h2⟩ := h2
  rcases h1 with ⟨no, er, es, e1, e2, e3, e4, e5, e6, e7⟩ | ⟨ok, e1, e2, hq, hc, hr⟩
  · rcases h2 with ⟨no2, er2, es2⟩ | ⟨ok2, _⟩
    · subst es; subst e1; subst e2; subst e3; subst e4; subst e5; subst e6; subst e7
      exact ⟨by omega, es2, hI⟩
    · exact absurd ok2 (by omega)
  · rcases h2 with ⟨no2, _⟩ | ⟨ok2, h2⟩
    · exact absurd ok (by omega)
    · obtain ⟨em, esg, hm⟩ := both hI.1 hq hl
      subst em; subst e1; subst e2
      have uniq : ∀ i j : Nat, i < mn2 → j < mn2 → κ2 1 i = κ2 1 j → i = j := by
        obtain ⟨gl, gls, -, -⟩ := CL_PLs hI.1 hq
        have hnd : (PLs k nl nt nb σ).Nodup := List.Nodup.sublist List.filter_sublist List.nodup_range
        intro i j hi hj e
        rw [gls i (by omega), gls j (by omega)] at e
        exact (List.getElem_inj (h₀ := show i < (PLs k nl nt nb σ).length by omega) (h₁ := show j < (PLs k nl nt nb σ).length by omega) hnd).mp (by omega)
      rcases hr with ⟨er, es, hno⟩ | ⟨x, hx, ex, hr⟩
      · rcases h2 with ⟨er2, es2, _⟩ | ⟨y, hy, ey, _⟩
        · subst es
          exact ⟨by omega, es2, I_cut hI hq hc⟩
        · rw [(hm y hy).1] at ey
          exact absurd ey (hno y hy)
      · rcases h2 with ⟨er2, es2, hno⟩ | ⟨y, hy, ey, h2⟩
        · exact absurd (by rw [(hm x hx).1]; exact ex) (hno x hx)
        · rw [(hm y hy).1] at ey
          have exy : y = x := uniq y x hy hx (by rw [ex, ey])
          subst exy
          have hA : ∀ q : Nat, q < mn2 → μ2 3 q = (fun q => sg2 * κ2 2 q) q ∧ μ2 4 q = (fun q => sg2 * κ2 3 q) q := fun q hq => ⟨(hm q hq).2.1, (hm q hq).2.2⟩
          have hT := (SI_top hI.1).1
          have hd := sg_d esg
          have hP := CP_PCE hc (show 0 < mn2 by omega)
          rcases hr with ⟨er, es, hno⟩ | ⟨e, he, er, es, ht, hw⟩
          · rcases h2 with ⟨er2, es2, _⟩ | ⟨a1, b1, c1, d1, er2, hs, es2⟩
            · subst es
              exact ⟨by omega, es2, I_cut hI hq hc⟩
            · exfalso
              refine SPR_now hs ((now_congr hA hy).mpr ((now_iff hd hT hP hy).mpr (fun i hi => hno i (by omega))))
          · rcases h2 with ⟨er2, es2, hn⟩ | ⟨a1, b1, c1, d1, er2, hs, es2⟩
            · exfalso
              exact (now_iff hd hT hP hy).mp ((now_congr hA hy).mp hn) e (by omega) ht
            · have hs2 := spr_congr hA hy hs
              have hb := pc_b hT hP he
              refine ⟨by omega, ?_, INV_tl (I_cut hI hq hc) (Or.inr ⟨_, _, es⟩)⟩
              rw [es2, es]
              rcases hw with ⟨hw, hf⟩ | ⟨hw, hf⟩
              · rw [if_pos hw]
                exact tl_eq hs.1.2.1 hs.1.1 hb.1 hb.2 (span_from hd hT hP hy he ht hf hs2)
              · rw [if_neg (by omega)]
                have hh := span_to hd hT hP hy he ht hf hs2
                exact tl_eq hh.1 hs.1.2.2.1 hb.1 hb.2 hh.2
