/-! what holds between the calls; what every call keeps -/
def INV (k nl nt nb : Nat) (σ κ ρ : AS) (n c : Nat) (sg f g : Int) : Prop := SI k nl nt nb σ ∧ CA k nl nt nb σ κ ρ n c sg f g
theorem CA_0 {k nl nt nb : Nat} {σ κ ρ : AS} {n c : Nat} {sg : Int} : CA k nl nt nb σ κ ρ n c sg 0 0 := ⟨Or.inl rfl, Or.inl rfl⟩
theorem pr_eq {α : Type} {a b : Int} {x y : α} {z : Int × α} (h1 : (a, x) = z) (h2 : (b, y) = z) : b = a ∧ y = x := by
  rw [← h1] at h2; exact ⟨congrArg Prod.fst h2, congrArg Prod.snd h2⟩
theorem up_n {f : Nat → Int} {n : Nat} {z : Int} {P : Int → Prop} (h : ∀ j : Nat, j < n → P (f j)) (hz : P z) : ∀ j : Nat, j < n + 1 → P (va_up f n z j) := by
  intro j hj
  by_cases e : j = n
  · subst e; simp only [va_up, if_pos rfl]; exact hz
  · simp only [va_up, if_neg e]; exact h j (by omega)
theorem up_i {f : Nat → Int} {n i : Nat} {z : Int} {P : Int → Prop} (h : ∀ j : Nat, j < n → P (f j)) (hz : P z) : ∀ j : Nat, j < n → P (va_up f i z j) := by
  intro j hj
  by_cases e : j = i
  · subst e; simp only [va_up, if_pos rfl]; exact hz
  · simp only [va_up, if_neg e]; exact h j hj
theorem rowA_n0 (k : Nat) : rowA k ≠ 0 := by unfold rowA; split; decide; split; decide; split <;> decide
theorem rowB_n0 (k : Nat) : rowB k ≠ 0 := by unfold rowB; split; decide; split; decide; split <;> decide
theorem lst_ext {k nl nt nb : Nat} {σ τ : AS} (h : ∀ r, r ≠ 0 → τ r = σ r) (h4 : τ 0 4 = σ 0 4) : lst k nl nt nb τ = lst k nl nt nb σ := by
  unfold lst
  rw [h 1 (by decide), h 2 (by decide), h 7 (by decide), h 12 (by decide), h4]
theorem CL_ext {k nl nt nb : Nat} {σ τ κ : AS} {n : Nat} {sg : Int} (h : ∀ r, r ≠ 0 → τ r = σ r) (h4 : τ 0 4 = σ 0 4) (hc : CL k nl nt nb σ κ n sg) : CL k nl nt nb τ κ n sg := by
  unfold CL at *
  rw [lst_ext h h4, h _ (rowA_n0 k), h _ (rowB_n0 k)]
  exact hc
theorem CP_ext {σ τ κ ρ : AS} {n c : Nat} {sg : Int} (h0 : τ 0 0 = σ 0 0) (hc : CP σ κ ρ n c sg) : CP τ κ ρ n c sg := by
  unfold CP at *
  rw [h0]
  exact hc
theorem SI_ext {k nl nt nb : Nat} {σ τ : AS} (h : ∀ r, r ≠ 0 → τ r = σ r) (h0 : τ 0 0 = σ 0 0) (h4 : τ 0 4 = σ 0 4) (hs : SI k nl nt nb σ) : SI k nl nt nb τ := by
  unfold SI at *
  rw [h 1 (by decide), h 2 (by decide), h 3 (by decide), h 4 (by decide), h 5 (by decide), h 6 (by decide), h 7 (by decide), h 8 (by decide), h 9 (by decide), h 10 (by decide), h 11 (by decide), h 12 (by decide), h0, h4]
  exact hs
theorem INV_ext {k nl nt nb : Nat} {σ τ κ ρ : AS} {n c : Nat} {sg f g : Int} (h : ∀ r, r ≠ 0 → τ r = σ r) (h0 : τ 0 0 = σ 0 0) (h4 : τ 0 4 = σ 0 4) (hI : INV k nl nt nb σ κ ρ n c sg f g) : INV k nl nt nb τ κ ρ n c sg f g := by
  obtain ⟨hs, h1, h2⟩ := hI
  refine ⟨SI_ext h h0 h4 hs, ?_, ?_⟩
  · rcases h1 with e | ⟨e, hc⟩
    · exact Or.inl e
    · exact Or.inr ⟨e, CL_ext h h4 hc⟩
  · rcases h2 with e | ⟨e, e2, hc⟩
    · exact Or.inl e
    · exact Or.inr ⟨e, e2, CP_ext h0 hc⟩
def TLo (σ τ : AS) : Prop := τ = σ ∨ ∃ x y : Int, τ = tl σ x y
theorem tl_row {σ : AS} {x y : Int} {r : Nat} (h : r ≠ 0) : tl σ x y r = σ r := by simp only [tl, ap, up2, if_neg h]
theorem INV_tl {k nl nt nb : Nat} {σ τ κ ρ : AS} {n c : Nat} {sg f g : Int} (hI : INV k nl nt nb σ κ ρ n c sg f g) (h : TLo σ τ) : INV k nl nt nb τ κ ρ n c sg f g := by
  rcases h with rfl | ⟨x, y, rfl⟩
  · exact hI
  · exact INV_ext (fun r hr => tl_row hr) rfl rfl hI

theorem K_top {k nl nt nb : Nat} {σ κ ρ : AS} {n c : Nat} {sg f g : Int} {r r' t g2 : Int} {σ2 σ3 : AS} (hI : INV k nl nt nb σ κ ρ n c sg f g) (h1 : (r, σ2) = sp_top σ t) (h2 : (r', σ3) = sp_top σ t) (hq : (r = -2 ∧ g2 = g) ∨ (r ≠ -2 ∧ g2 = 0)) : r' = r ∧ σ3 = σ2 ∧ INV k nl nt nb σ2 κ ρ n c sg f g2 := by
  obtain ⟨hs, hc⟩ := hI
  obtain ⟨er, es⟩ := pr_eq h1 h2
  refine ⟨er, es, ?_⟩
  have h00 := SI_top hs
  unfold sp_top at h1
  split at h1
  · rename_i ht
    have e1 := congrArg Prod.fst h1
    have e2 : σ2 = ap σ 0 0 t := congrArg Prod.snd h1
    have e1 : r = σ 0 0 := e1
    have hg : g2 = 0 := by omega
    subst e2; subst hg
    refine ⟨⟨hs.1, hs.2.1, hs.2.2.1, hs.2.2.2.1, ht, hs.2.2.2.2.2⟩, ?_, Or.inl rfl⟩
    rcases hc.1 with e | ⟨e, q⟩
    · exact Or.inl e
    · exact Or.inr ⟨e, CL_ext (σ := σ) (τ := ap σ 0 0 t) (fun r hr => by simp only [ap, up2, if_neg hr]) rfl q⟩
  · have e1 : r = -2 := congrArg Prod.fst h1
    have e2 : σ2 = σ := congrArg Prod.snd h1
    have hg : g2 = g := by omega
    subst e2; subst hg
    exact ⟨hs, hc⟩
theorem K_kind {k nl nt nb : Nat} {σ κ ρ : AS} {n c : Nat} {sg f g : Int} {r r' t f2 g2 : Int} {k2 k3 : Nat} (hI : INV k nl nt nb σ κ ρ n c sg f g) (h1 : (r, k2) = sp_kind k t) (h2 : (r', k3) = sp_kind k t) (hq : (r = -2 ∧ f2 = f ∧ g2 = g) ∨ (r ≠ -2 ∧ f2 = 0 ∧ g2 = 0)) : r' = r ∧ k3 = k2 ∧ INV k2 nl nt nb σ κ ρ n c sg f2 g2 := by
  obtain ⟨hs, hc⟩ := hI
  obtain ⟨er, es⟩ := pr_eq h1 h2
  refine ⟨er, es, ?_⟩
  unfold sp_kind at h1
  split at h1
  · rename_i ht
    have e1 : r = (k : Int) := congrArg Prod.fst h1
    have e2 : k2 = t.toNat := congrArg Prod.snd h1
    obtain ⟨hf, hg⟩ : f2 = 0 ∧ g2 = 0 := by omega
    subst hf; subst hg
    exact ⟨⟨by omega, hs.2⟩, CA_0⟩
  · have e1 : r = -2 := congrArg Prod.fst h1
    have e2 : k2 = k := congrArg Prod.snd h1
    obtain ⟨hf, hg⟩ : f2 = f ∧ g2 = g := by omega
    subst e2; subst hf; subst hg
    exact ⟨hs, hc⟩
theorem K_link {k nl nt nb : Nat} {σ κ ρ : AS} {n c : Nat} {sg f g : Int} {r r' u v x y f2 g2 : Int} {nl2 nl3 : Nat} {σ2 σ3 : AS} (hI : INV k nl nt nb σ κ ρ n c sg f g) (h1 : (r, nl2, σ2) = sp_link nl σ u v x y) (h2 : (r', nl3, σ3) = sp_link nl σ u v x y) (hq : (r < 0 ∧ f2 = f ∧ g2 = g) ∨ (0 ≤ r ∧ f2 = 0 ∧ g2 = 0)) : r' = r ∧ nl3 = nl2 ∧ σ3 = σ2 ∧ INV k nl2 nt nb σ2 κ ρ n c sg f2 g2 := by
  obtain ⟨hs, hc⟩ := hI
  obtain ⟨er, es⟩ := pr_eq h1 h2
  obtain ⟨hk, hnl, hnt, hnb, h00, h04, i1, i2, i12, i3, i4, i5, i6, i7, i8, i9, i10, i11, i13⟩ := id hs
  have es2 : nl3 = nl2 ∧ σ3 = σ2 := ⟨congrArg Prod.fst es, congrArg Prod.snd es⟩
  refine ⟨er, es2.1, es2.2, ?_⟩
  unfold sp_link at h1
  split at h1
  · rename_i ht
    split at h1
    · have e1 : r = -4 := congrArg Prod.fst h1
      have e2 : nl2 = nl := congrArg (fun q => q.2.1) h1
      have e3 : σ2 = σ := congrArg (fun q => q.2.2) h1
      obtain ⟨hf, hg⟩ : f2 = f ∧ g2 = g := by omega
      subst e2; subst e3; subst hf; subst hg
      exact ⟨hs, hc⟩
    · rename_i hfull
      have e1 : r = (nl : Int) := congrArg Prod.fst h1
      have e2 : nl2 = nl + 1 := congrArg (fun q => q.2.1) h1
      have e3 : σ2 = ap (ap (ap (ap σ 1 nl u) 2 nl v) 3 nl x) 4 nl y := congrArg (fun q => q.2.2) h1
      obtain ⟨hf, hg⟩ : f2 = 0 ∧ g2 = 0 := by omega
      subst e2; subst e3; subst hf; subst hg
      refine ⟨⟨hk, by omega, hnt, hnb, h00, h04, up_n (f := σ 1) (n := nl) (z := u) (P := fun z => 0 ≤ z ∧ z ≤ 5) i1 (by omega), up_n (f := σ 2) (n := nl) (z := v) (P := fun z => 0 ≤ z ∧ z ≤ 5) i2 (by omega), ?_, up_n (f := σ 3) (n := nl) (z := x) (P := fun z => -100 ≤ z ∧ z ≤ 100) i3 (by omega), up_n (f := σ 4) (n := nl) (z := y) (P := fun z => -100 ≤ z ∧ z ≤ 100) i4 (by omega), i5, i6, i7, i8, i9, i10, i11, i13⟩, CA_0⟩
      intro j hj
      show va_up (σ 1) nl u j ≠ va_up (σ 2) nl v j
      by_cases e : j = nl
      · simp only [va_up, if_pos e]; exact ht.2.2.1
      · simp only [va_up, if_neg e]; exact i12 j (by omega)
  · have e1 : r = -2 := congrArg Prod.fst h1
    have e2 : nl2 = nl := congrArg (fun q => q.2.1) h1
    have e3 : σ2 = σ := congrArg (fun q => q.2.2) h1
    obtain ⟨hf, hg⟩ : f2 = f ∧ g2 = g := by omega
    subst e2; subst e3; subst hf; subst hg
    exact ⟨hs, hc⟩
theorem K_thing {k nl nt nb : Nat} {σ κ ρ : AS} {n c : Nat} {sg f g : Int} {r r' u x y f2 g2 : Int} {nt2 nt3 : Nat} {σ2 σ3 : AS} (hI : INV k nl nt nb σ κ ρ n c sg f g) (h1 : (r, nt2, σ2) = sp_thing nt σ u x y) (h2 : (r', nt3, σ3) = sp_thing nt σ u x y) (hq : (r < 0 ∧ f2 = f ∧ g2 = g) ∨ (0 ≤ r ∧ f2 = 0 ∧ g2 = 0)) : r' = r ∧ nt3 = nt2 ∧ σ3 = σ2 ∧ INV k nl nt2 nb σ2 κ ρ n c sg f2 g2 := by
  obtain ⟨hs, hc⟩ := hI
  obtain ⟨er, es⟩ := pr_eq h1 h2
  obtain ⟨hk, hnl, hnt, hnb, h00, h04, i1, i2, i12, i3, i4, i5, i6, i7, i8, i9, i10, i11, i13⟩ := id hs
  have es2 : nt3 = nt2 ∧ σ3 = σ2 := ⟨congrArg Prod.fst es, congrArg Prod.snd es⟩
  refine ⟨er, es2.1, es2.2, ?_⟩
  unfold sp_thing at h1
  split at h1
  · rename_i ht
    split at h1
    · have e1 : r = -4 := congrArg Prod.fst h1
      have e2 : nt2 = nt := congrArg (fun q => q.2.1) h1
      have e3 : σ2 = σ := congrArg (fun q => q.2.2) h1
      obtain ⟨hf, hg⟩ : f2 = f ∧ g2 = g := by omega
      subst e2; subst e3; subst hf; subst hg
      exact ⟨hs, hc⟩
    · rename_i hfull
      have e1 : r = (nt : Int) := congrArg Prod.fst h1
      have e2 : nt2 = nt + 1 := congrArg (fun q => q.2.1) h1
      have e3 : σ2 = ap (ap (ap σ 7 nt u) 8 nt x) 9 nt y := congrArg (fun q => q.2.2) h1
      obtain ⟨hf, hg⟩ : f2 = 0 ∧ g2 = 0 := by omega
      subst e2; subst e3; subst hf; subst hg
      refine ⟨⟨hk, hnl, by omega, hnb, h00, h04, i1, i2, i12, i3, i4, i5, i6, up_n (f := σ 7) (n := nt) (z := u) (P := fun z => 1 ≤ z ∧ z ≤ 50) i7 (by omega), up_n (f := σ 8) (n := nt) (z := x) (P := fun z => -100 ≤ z ∧ z ≤ 100) i8 (by omega), up_n (f := σ 9) (n := nt) (z := y) (P := fun z => -100 ≤ z ∧ z ≤ 100) i9 (by omega), i10, i11, i13⟩, CA_0⟩
  · have e1 : r = -2 := congrArg Prod.fst h1
    have e2 : nt2 = nt := congrArg (fun q => q.2.1) h1
    have e3 : σ2 = σ := congrArg (fun q => q.2.2) h1
    obtain ⟨hf, hg⟩ : f2 = f ∧ g2 = g := by omega
    subst e2; subst e3; subst hf; subst hg
    exact ⟨hs, hc⟩
theorem K_block {k nl nt nb : Nat} {σ κ ρ : AS} {n c : Nat} {sg f g : Int} {r r' x y f2 g2 : Int} {nb2 nb3 : Nat} {σ2 σ3 : AS} (hI : INV k nl nt nb σ κ ρ n c sg f g) (h1 : (r, nb2, σ2) = sp_block nb σ x y) (h2 : (r', nb3, σ3) = sp_block nb σ x y) (hq : (r < 0 ∧ f2 = f ∧ g2 = g) ∨ (0 ≤ r ∧ f2 = 0 ∧ g2 = 0)) : r' = r ∧ nb3 = nb2 ∧ σ3 = σ2 ∧ INV k nl nt nb2 σ2 κ ρ n c sg f2 g2 := by
  obtain ⟨hs, hc⟩ := hI
  obtain ⟨er, es⟩ := pr_eq h1 h2
  obtain ⟨hk, hnl, hnt, hnb, h00, h04, i1, i2, i12, i3, i4, i5, i6, i7, i8, i9, i10, i11, i13⟩ := id hs
  have es2 : nb3 = nb2 ∧ σ3 = σ2 := ⟨congrArg Prod.fst es, congrArg Prod.snd es⟩
  refine ⟨er, es2.1, es2.2, ?_⟩
  unfold sp_block at h1
  split at h1
  · rename_i ht
    split at h1
    · have e1 : r = -4 := congrArg Prod.fst h1
      have e2 : nb2 = nb := congrArg (fun q => q.2.1) h1
      have e3 : σ2 = σ := congrArg (fun q => q.2.2) h1
      obtain ⟨hf, hg⟩ : f2 = f ∧ g2 = g := by omega
      subst e2; subst e3; subst hf; subst hg
      exact ⟨hs, hc⟩
    · rename_i hfull
      have e1 : r = (nb : Int) := congrArg Prod.fst h1
      have e2 : nb2 = nb + 1 := congrArg (fun q => q.2.1) h1
      have e3 : σ2 = ap (ap (ap σ 10 nb x) 11 nb y) 12 nb 0 := congrArg (fun q => q.2.2) h1
      obtain ⟨hf, hg⟩ : f2 = 0 ∧ g2 = 0 := by omega
      subst e2; subst e3; subst hf; subst hg
      refine ⟨⟨hk, hnl, hnt, by omega, h00, h04, i1, i2, i12, i3, i4, i5, i6, i7, i8, i9, up_n (f := σ 10) (n := nb) (z := x) (P := fun z => -100 ≤ z ∧ z ≤ 100) i10 (by omega), up_n (f := σ 11) (n := nb) (z := y) (P := fun z => -100 ≤ z ∧ z ≤ 100) i11 (by omega), up_n (f := σ 12) (n := nb) (z := 0) (P := fun z => 0 ≤ z ∧ z < 256) i13 (by omega)⟩, CA_0⟩
  · have e1 : r = -2 := congrArg Prod.fst h1
    have e2 : nb2 = nb := congrArg (fun q => q.2.1) h1
    have e3 : σ2 = σ := congrArg (fun q => q.2.2) h1
    obtain ⟨hf, hg⟩ : f2 = f ∧ g2 = g := by omega
    subst e2; subst e3; subst hf; subst hg
    exact ⟨hs, hc⟩
theorem K_pair {k nl nt nb : Nat} {σ κ ρ : AS} {n c : Nat} {sg f g : Int} {r r' u v x y f2 g2 : Int} {σ2 σ3 : AS} (hI : INV k nl nt nb σ κ ρ n c sg f g) (h1 : (r, σ2) = sp_pair σ u v x y) (h2 : (r', σ3) = sp_pair σ u v x y) (hq : (r < 0 ∧ f2 = f ∧ g2 = g) ∨ (0 ≤ r ∧ f2 = 0 ∧ g2 = 0)) : r' = r ∧ σ3 = σ2 ∧ INV k nl nt nb σ2 κ ρ n c sg f2 g2 := by
  obtain ⟨hs, hc⟩ := hI
  obtain ⟨er, es⟩ := pr_eq h1 h2
  obtain ⟨hk, hnl, hnt, hnb, h00, h04, i1, i2, i12, i3, i4, i5, i6, i7, i8, i9, i10, i11, i13⟩ := id hs
  refine ⟨er, es, ?_⟩
  unfold sp_pair at h1
  split at h1
  · rename_i ht
    have e1 : r = 1 := congrArg Prod.fst h1
    have e2 : σ2 = ap (ap σ 5 (4 * u + v).toNat x) 6 (4 * u + v).toNat y := congrArg Prod.snd h1
    obtain ⟨hf, hg⟩ : f2 = 0 ∧ g2 = 0 := by omega
    subst e2; subst hf; subst hg
    refine ⟨⟨hk, hnl, hnt, hnb, h00, h04, i1, i2, i12, i3, i4, up_i (f := σ 5) (n := 16) (i := (4 * u + v).toNat) (z := x) (P := fun z => -100 ≤ z ∧ z ≤ 100) i5 (by omega), up_i (f := σ 6) (n := 16) (i := (4 * u + v).toNat) (z := y) (P := fun z => -100 ≤ z ∧ z ≤ 100) i6 (by omega), i7, i8, i9, i10, i11, i13⟩, CA_0⟩
  · have e1 : r = -2 := congrArg Prod.fst h1
    have e2 : σ2 = σ := congrArg Prod.snd h1
    obtain ⟨hf, hg⟩ : f2 = f ∧ g2 = g := by omega
    subst e2; subst hf; subst hg
    exact ⟨hs, hc⟩
theorem K_room {k nl nt nb : Nat} {σ κ ρ : AS} {n c : Nat} {sg f g : Int} {r r' t f2 g2 : Int} {σ2 σ3 : AS} (hI : INV k nl nt nb σ κ ρ n c sg f g) (h1 : (r, σ2) = sp_room σ t) (h2 : (r', σ3) = sp_room σ t) (hq : (r = -2 ∧ f2 = f ∧ g2 = g) ∨ (r ≠ -2 ∧ f2 = 0 ∧ g2 = 0)) : r' = r ∧ σ3 = σ2 ∧ INV k nl nt nb σ2 κ ρ n c sg f2 g2 := by
  obtain ⟨hs, hc⟩ := hI
  obtain ⟨er, es⟩ := pr_eq h1 h2
  obtain ⟨hk, hnl, hnt, hnb, h00, h04, i1, i2, i12, i3, i4, i5, i6, i7, i8, i9, i10, i11, i13⟩ := id hs
  refine ⟨er, es, ?_⟩
  unfold sp_room at h1
  split at h1
  · rename_i ht
    have e1 : r = σ 0 4 := congrArg Prod.fst h1
    have e2 : σ2 = ap σ 0 4 t := congrArg Prod.snd h1
    obtain ⟨hf, hg⟩ : f2 = 0 ∧ g2 = 0 := by omega
    subst e2; subst hf; subst hg
    exact ⟨⟨hk, hnl, hnt, hnb, h00, ht, i1, i2, i12, i3, i4, i5, i6, i7, i8, i9, i10, i11, i13⟩, CA_0⟩
  · have e1 : r = -2 := congrArg Prod.fst h1
    have e2 : σ2 = σ := congrArg Prod.snd h1
    obtain ⟨hf, hg⟩ : f2 = f ∧ g2 = g := by omega
    subst e2; subst hf; subst hg
    exact ⟨hs, hc⟩
theorem K_put {k nl nt nb : Nat} {σ κ ρ : AS} {n c : Nat} {sg f g : Int} {r r' u x y f2 g2 : Int} {σ2 σ3 : AS} (hI : INV k nl nt nb σ κ ρ n c sg f g) (h1 : (r, σ2) = sp_put k nl nt nb σ u x y) (h2 : (r', σ3) = sp_put k nl nt nb σ u x y) (hq : (r < 0 ∧ f2 = f ∧ g2 = g) ∨ (0 ≤ r ∧ f2 = 0 ∧ g2 = 0)) : r' = r ∧ σ3 = σ2 ∧ INV k nl nt nb σ2 κ ρ n c sg f2 g2 := by
  obtain ⟨hs, hc⟩ := hI
  obtain ⟨er, es⟩ := pr_eq h1 h2
  obtain ⟨hk, hnl, hnt, hnb, h00, h04, i1, i2, i12, i3, i4, i5, i6, i7, i8, i9, i10, i11, i13⟩ := id hs
  refine ⟨er, es, ?_⟩
  unfold sp_put at h1
  split at h1
  · rename_i ht
    have e1 : r = 1 := congrArg Prod.fst h1
    have e2 : σ2 = ap (ap σ (rowA k) u.toNat x) (rowB k) u.toNat y := congrArg Prod.snd h1
    obtain ⟨hf, hg⟩ : f2 = 0 ∧ g2 = 0 := by omega
    subst e2; subst hf; subst hg
    refine ⟨?_, CA_0⟩
    rcases (show k = 0 ∨ k = 1 ∨ k = 2 ∨ k = 3 ∨ k = 4 by omega) with rfl | rfl | rfl | rfl | rfl
    · exact ⟨hk, hnl, hnt, hnb, h00, h04, i1, i2, i12, up_i (f := σ 3) (n := nl) (i := u.toNat) (z := x) (P := fun z => -100 ≤ z ∧ z ≤ 100) i3 ht.2.1, up_i (f := σ 4) (n := nl) (i := u.toNat) (z := y) (P := fun z => -100 ≤ z ∧ z ≤ 100) i4 ht.2.2, i5, i6, i7, i8, i9, i10, i11, i13⟩
    · exact ⟨hk, hnl, hnt, hnb, h00, h04, i1, i2, i12, up_i (f := σ 3) (n := nl) (i := u.toNat) (z := x) (P := fun z => -100 ≤ z ∧ z ≤ 100) i3 ht.2.1, up_i (f := σ 4) (n := nl) (i := u.toNat) (z := y) (P := fun z => -100 ≤ z ∧ z ≤ 100) i4 ht.2.2, i5, i6, i7, i8, i9, i10, i11, i13⟩
    · exact ⟨hk, hnl, hnt, hnb, h00, h04, i1, i2, i12, i3, i4, up_i (f := σ 5) (n := 16) (i := u.toNat) (z := x) (P := fun z => -100 ≤ z ∧ z ≤ 100) i5 ht.2.1, up_i (f := σ 6) (n := 16) (i := u.toNat) (z := y) (P := fun z => -100 ≤ z ∧ z ≤ 100) i6 ht.2.2, i7, i8, i9, i10, i11, i13⟩
    · exact ⟨hk, hnl, hnt, hnb, h00, h04, i1, i2, i12, i3, i4, i5, i6, i7, up_i (f := σ 8) (n := nt) (i := u.toNat) (z := x) (P := fun z => -100 ≤ z ∧ z ≤ 100) i8 ht.2.1, up_i (f := σ 9) (n := nt) (i := u.toNat) (z := y) (P := fun z => -100 ≤ z ∧ z ≤ 100) i9 ht.2.2, i10, i11, i13⟩
    · exact ⟨hk, hnl, hnt, hnb, h00, h04, i1, i2, i12, i3, i4, i5, i6, i7, i8, i9, up_i (f := σ 10) (n := nb) (i := u.toNat) (z := x) (P := fun z => -100 ≤ z ∧ z ≤ 100) i10 ht.2.1, up_i (f := σ 11) (n := nb) (i := u.toNat) (z := y) (P := fun z => -100 ≤ z ∧ z ≤ 100) i11 ht.2.2, i13⟩
  · have e1 : r = -2 := congrArg Prod.fst h1
    have e2 : σ2 = σ := congrArg Prod.snd h1
    obtain ⟨hf, hg⟩ : f2 = f ∧ g2 = g := by omega
    subst e2; subst hf; subst hg
    exact ⟨hs, hc⟩
theorem K_needs {k nl nt nb : Nat} {σ κ ρ : AS} {n c : Nat} {sg f g : Int} {r r' u v z f2 g2 : Int} {σ2 σ3 : AS} (hI : INV k nl nt nb σ κ ρ n c sg f g) (h1 : (r, σ2) = sp_needs nb σ u v z) (h2 : (r', σ3) = sp_needs nb σ u v z) (hq : (r < 0 ∧ f2 = f ∧ g2 = g) ∨ (0 ≤ r ∧ f2 = 0 ∧ g2 = 0)) : r' = r ∧ σ3 = σ2 ∧ INV k nl nt nb σ2 κ ρ n c sg f2 g2 := by
  obtain ⟨hs, hc⟩ := hI
  obtain ⟨er, es⟩ := pr_eq h1 h2
  obtain ⟨hk, hnl, hnt, hnb, h00, h04, i1, i2, i12, i3, i4, i5, i6, i7, i8, i9, i10, i11, i13⟩ := id hs
  refine ⟨er, es, ?_⟩
  unfold sp_needs at h1
  split at h1
  · rename_i ht
    split at h1
    · have e1 : r = -3 := congrArg Prod.fst h1
      have e2 : σ2 = σ := congrArg Prod.snd h1
      obtain ⟨hf, hg⟩ : f2 = f ∧ g2 = g := by omega
      subst e2; subst hf; subst hg
      exact ⟨hs, hc⟩
    · have e1 : r = 1 := congrArg Prod.fst h1
      have e2 : σ2 = ap σ 12 u.toNat (((σ 12 u.toNat).toNat ^^^ 2 ^ v.toNat : Nat) : Int) := congrArg Prod.snd h1
      obtain ⟨hf, hg⟩ : f2 = 0 ∧ g2 = 0 := by omega
      subst e2; subst hf; subst hg
      have hu := i13 u.toNat (by omega)
      have hx : (σ 12 u.toNat).toNat ^^^ 2 ^ v.toNat < 2 ^ 8 := Nat.xor_lt_two_pow (show (σ 12 u.toNat).toNat < 2 ^ 8 by omega) (Nat.pow_lt_pow_right (by decide) (by omega))
      exact ⟨⟨hk, hnl, hnt, hnb, h00, h04, i1, i2, i12, i3, i4, i5, i6, i7, i8, i9, i10, i11, up_i (f := σ 12) (n := nb) (i := u.toNat) (z := (((σ 12 u.toNat).toNat ^^^ 2 ^ v.toNat : Nat) : Int)) (P := fun z => 0 ≤ z ∧ z < 256) i13 (by omega)⟩, CA_0⟩
  · have e1 : r = -2 := congrArg Prod.fst h1
    have e2 : σ2 = σ := congrArg Prod.snd h1
    obtain ⟨hf, hg⟩ : f2 = f ∧ g2 = g := by omega
    subst e2; subst hf; subst hg
    exact ⟨hs, hc⟩
theorem K_clear {k nl nt nb : Nat} {σ κ ρ : AS} {n c : Nat} {sg f g : Int} {r r' : Int} {nl2 nt2 nb2 nl3 nt3 nb3 : Nat} {σ2 σ3 : AS} (hI : INV k nl nt nb σ κ ρ n c sg f g) (h1 : (r, nl2, nt2, nb2, σ2) = sp_clear k nl nt nb σ) (h2 : (r', nl3, nt3, nb3, σ3) = sp_clear k nl nt nb σ) : r' = r ∧ nl3 = nl2 ∧ nt3 = nt2 ∧ nb3 = nb2 ∧ σ3 = σ2 ∧ INV k nl2 nt2 nb2 σ2 κ ρ n c sg 0 0 := by
  obtain ⟨hs, hc⟩ := hI
  obtain ⟨er, es⟩ := pr_eq h1 h2
  obtain ⟨hk, hnl, hnt, hnb, h00, h04, i1, i2, i12, i3, i4, i5, i6, i7, i8, i9, i10, i11, i13⟩ := id hs
  refine ⟨er, congrArg Prod.fst es, congrArg (fun q => q.2.1) es, congrArg (fun q => q.2.2.1) es, congrArg (fun q => q.2.2.2) es, ?_, CA_0⟩
  have n0 : ∀ {P : Nat → Prop}, ∀ j : Nat, j < 0 → P j := fun j h => absurd h (Nat.not_lt_zero _)
  unfold sp_clear at h1
  split at h1
  · obtain ⟨e2, e3, e4, e5⟩ : nl2 = 0 ∧ nt2 = nt ∧ nb2 = nb ∧ σ2 = σ := ⟨congrArg (fun q => q.2.1) h1, congrArg (fun q => q.2.2.1) h1, congrArg (fun q => q.2.2.2.1) h1, congrArg (fun q => q.2.2.2.2) h1⟩
    subst e2; subst e3; subst e4; subst e5
    exact ⟨hk, by decide, hnt, hnb, h00, h04, n0, n0, n0, n0, n0, i5, i6, i7, i8, i9, i10, i11, i13⟩
  · split at h1
    · obtain ⟨e2, e3, e4, e5⟩ : nl2 = nl ∧ nt2 = nt ∧ nb2 = nb ∧ σ2 = up2 (up2 σ 5 (fun _ => 0)) 6 (fun _ => 0) := ⟨congrArg (fun q => q.2.1) h1, congrArg (fun q => q.2.2.1) h1, congrArg (fun q => q.2.2.2.1) h1, congrArg (fun q => q.2.2.2.2) h1⟩
      subst e2; subst e3; subst e4; subst e5
      have z : ∀ j : Nat, j < 16 → -100 ≤ (0 : Int) ∧ (0 : Int) ≤ 100 := fun j _ => by omega
      exact ⟨hk, hnl, hnt, hnb, h00, h04, i1, i2, i12, i3, i4, z, z, i7, i8, i9, i10, i11, i13⟩
    · split at h1
      · obtain ⟨e2, e3, e4, e5⟩ : nl2 = nl ∧ nt2 = 0 ∧ nb2 = nb ∧ σ2 = σ := ⟨congrArg (fun q => q.2.1) h1, congrArg (fun q => q.2.2.1) h1, congrArg (fun q => q.2.2.2.1) h1, congrArg (fun q => q.2.2.2.2) h1⟩
        subst e2; subst e3; subst e4; subst e5
        exact ⟨hk, hnl, by decide, hnb, h00, h04, i1, i2, i12, i3, i4, i5, i6, n0, n0, n0, i10, i11, i13⟩
      · obtain ⟨e2, e3, e4, e5⟩ : nl2 = nl ∧ nt2 = nt ∧ nb2 = 0 ∧ σ2 = σ := ⟨congrArg (fun q => q.2.1) h1, congrArg (fun q => q.2.2.1) h1, congrArg (fun q => q.2.2.2.1) h1, congrArg (fun q => q.2.2.2.2) h1⟩
        subst e2; subst e3; subst e4; subst e5
        exact ⟨hk, hnl, hnt, by decide, h00, h04, i1, i2, i12, i3, i4, i5, i6, i7, i8, i9, n0, n0, n0⟩
