/-! what the calls that change the state leave as it was -/
theorem F_top {σ σ2 : AS} {r : Int} {t : Int} (h : (r, σ2) = sp_top σ t) : σ2 1 = σ 1 ∧ σ2 2 = σ 2 ∧ σ2 3 = σ 3 ∧ σ2 4 = σ 4 ∧ σ2 5 = σ 5 ∧ σ2 6 = σ 6 ∧ σ2 7 = σ 7 ∧ σ2 8 = σ 8 ∧ σ2 9 = σ 9 ∧ σ2 10 = σ 10 ∧ σ2 11 = σ 11 ∧ σ2 12 = σ 12 ∧ σ2 0 4 = σ 0 4 ∧ σ2 0 6 = σ 0 6 ∧ σ2 0 7 = σ 0 7 := by
  have e : σ2 = σ ∨ σ2 = ap σ 0 0 t := by
    unfold sp_top at h
    split at h
    · exact Or.inr (congrArg (fun q => q.2) h)
    · exact Or.inl (congrArg (fun q => q.2) h)
  rcases e with rfl | rfl
  · exact ⟨rfl, rfl, rfl, rfl, rfl, rfl, rfl, rfl, rfl, rfl, rfl, rfl, rfl, rfl, rfl⟩
  · exact ⟨rfl, rfl, rfl, rfl, rfl, rfl, rfl, rfl, rfl, rfl, rfl, rfl, rfl, rfl, rfl⟩
theorem F_link {σ σ2 : AS} {r : Int} {nl nl2 : Nat} {u v x y : Int} (h : (r, nl2, σ2) = sp_link nl σ u v x y) : σ2 5 = σ 5 ∧ σ2 6 = σ 6 ∧ σ2 7 = σ 7 ∧ σ2 8 = σ 8 ∧ σ2 9 = σ 9 ∧ σ2 10 = σ 10 ∧ σ2 11 = σ 11 ∧ σ2 12 = σ 12 ∧ σ2 0 4 = σ 0 4 ∧ σ2 0 6 = σ 0 6 ∧ σ2 0 7 = σ 0 7 := by
  have e : σ2 = σ ∨ σ2 = ap (ap (ap (ap σ 1 nl u) 2 nl v) 3 nl x) 4 nl y := by
    unfold sp_link at h
    split at h
    · split at h
      · exact Or.inl (congrArg (fun q => q.2.2) h)
      · exact Or.inr (congrArg (fun q => q.2.2) h)
    · exact Or.inl (congrArg (fun q => q.2.2) h)
  rcases e with rfl | rfl
  · exact ⟨rfl, rfl, rfl, rfl, rfl, rfl, rfl, rfl, rfl, rfl, rfl⟩
  · exact ⟨rfl, rfl, rfl, rfl, rfl, rfl, rfl, rfl, rfl, rfl, rfl⟩
theorem F_pair {σ σ2 : AS} {r : Int} {u v x y : Int} (h : (r, σ2) = sp_pair σ u v x y) : σ2 1 = σ 1 ∧ σ2 2 = σ 2 ∧ σ2 3 = σ 3 ∧ σ2 4 = σ 4 ∧ σ2 7 = σ 7 ∧ σ2 8 = σ 8 ∧ σ2 9 = σ 9 ∧ σ2 10 = σ 10 ∧ σ2 11 = σ 11 ∧ σ2 12 = σ 12 ∧ σ2 0 4 = σ 0 4 ∧ σ2 0 6 = σ 0 6 ∧ σ2 0 7 = σ 0 7 := by
  have e : σ2 = σ ∨ σ2 = ap (ap σ 5 (4 * u + v).toNat x) 6 (4 * u + v).toNat y := by
    unfold sp_pair at h
    split at h
    · exact Or.inr (congrArg (fun q => q.2) h)
    · exact Or.inl (congrArg (fun q => q.2) h)
  rcases e with rfl | rfl
  · exact ⟨rfl, rfl, rfl, rfl, rfl, rfl, rfl, rfl, rfl, rfl, rfl, rfl, rfl⟩
  · exact ⟨rfl, rfl, rfl, rfl, rfl, rfl, rfl, rfl, rfl, rfl, rfl, rfl, rfl⟩
theorem F_thing {σ σ2 : AS} {r : Int} {nt nt2 : Nat} {u x y : Int} (h : (r, nt2, σ2) = sp_thing nt σ u x y) : σ2 1 = σ 1 ∧ σ2 2 = σ 2 ∧ σ2 3 = σ 3 ∧ σ2 4 = σ 4 ∧ σ2 5 = σ 5 ∧ σ2 6 = σ 6 ∧ σ2 10 = σ 10 ∧ σ2 11 = σ 11 ∧ σ2 12 = σ 12 ∧ σ2 0 6 = σ 0 6 ∧ σ2 0 7 = σ 0 7 := by
  have e : σ2 = σ ∨ σ2 = ap (ap (ap σ 7 nt u) 8 nt x) 9 nt y := by
    unfold sp_thing at h
    split at h
    · split at h
      · exact Or.inl (congrArg (fun q => q.2.2) h)
      · exact Or.inr (congrArg (fun q => q.2.2) h)
    · exact Or.inl (congrArg (fun q => q.2.2) h)
  rcases e with rfl | rfl
  · exact ⟨rfl, rfl, rfl, rfl, rfl, rfl, rfl, rfl, rfl, rfl, rfl⟩
  · exact ⟨rfl, rfl, rfl, rfl, rfl, rfl, rfl, rfl, rfl, rfl, rfl⟩
theorem F_room {σ σ2 : AS} {r : Int} {t : Int} (h : (r, σ2) = sp_room σ t) : σ2 1 = σ 1 ∧ σ2 2 = σ 2 ∧ σ2 3 = σ 3 ∧ σ2 4 = σ 4 ∧ σ2 5 = σ 5 ∧ σ2 6 = σ 6 ∧ σ2 7 = σ 7 ∧ σ2 8 = σ 8 ∧ σ2 9 = σ 9 ∧ σ2 10 = σ 10 ∧ σ2 11 = σ 11 ∧ σ2 12 = σ 12 ∧ σ2 0 6 = σ 0 6 ∧ σ2 0 7 = σ 0 7 := by
  have e : σ2 = σ ∨ σ2 = ap σ 0 4 t := by
    unfold sp_room at h
    split at h
    · exact Or.inr (congrArg (fun q => q.2) h)
    · exact Or.inl (congrArg (fun q => q.2) h)
  rcases e with rfl | rfl
  · exact ⟨rfl, rfl, rfl, rfl, rfl, rfl, rfl, rfl, rfl, rfl, rfl, rfl, rfl, rfl⟩
  · exact ⟨rfl, rfl, rfl, rfl, rfl, rfl, rfl, rfl, rfl, rfl, rfl, rfl, rfl, rfl⟩
theorem F_block {σ σ2 : AS} {r : Int} {nb nb2 : Nat} {x y : Int} (h : (r, nb2, σ2) = sp_block nb σ x y) : σ2 1 = σ 1 ∧ σ2 2 = σ 2 ∧ σ2 3 = σ 3 ∧ σ2 4 = σ 4 ∧ σ2 5 = σ 5 ∧ σ2 6 = σ 6 ∧ σ2 7 = σ 7 ∧ σ2 8 = σ 8 ∧ σ2 9 = σ 9 ∧ σ2 0 4 = σ 0 4 ∧ σ2 0 6 = σ 0 6 ∧ σ2 0 7 = σ 0 7 := by
  have e : σ2 = σ ∨ σ2 = ap (ap (ap σ 10 nb x) 11 nb y) 12 nb 0 := by
    unfold sp_block at h
    split at h
    · split at h
      · exact Or.inl (congrArg (fun q => q.2.2) h)
      · exact Or.inr (congrArg (fun q => q.2.2) h)
    · exact Or.inl (congrArg (fun q => q.2.2) h)
  rcases e with rfl | rfl
  · exact ⟨rfl, rfl, rfl, rfl, rfl, rfl, rfl, rfl, rfl, rfl, rfl, rfl⟩
  · exact ⟨rfl, rfl, rfl, rfl, rfl, rfl, rfl, rfl, rfl, rfl, rfl, rfl⟩
theorem F_needs {σ σ2 : AS} {r : Int} {nb : Nat} {u v z : Int} (h : (r, σ2) = sp_needs nb σ u v z) : σ2 1 = σ 1 ∧ σ2 2 = σ 2 ∧ σ2 3 = σ 3 ∧ σ2 4 = σ 4 ∧ σ2 5 = σ 5 ∧ σ2 6 = σ 6 ∧ σ2 7 = σ 7 ∧ σ2 8 = σ 8 ∧ σ2 9 = σ 9 ∧ σ2 10 = σ 10 ∧ σ2 11 = σ 11 ∧ σ2 0 4 = σ 0 4 ∧ σ2 0 6 = σ 0 6 ∧ σ2 0 7 = σ 0 7 := by
  have e : σ2 = σ ∨ σ2 = ap σ 12 u.toNat (((σ 12 u.toNat).toNat ^^^ 2 ^ v.toNat : Nat) : Int) := by
    unfold sp_needs at h
    split at h
    · split at h
      · exact Or.inl (congrArg (fun q => q.2) h)
      · exact Or.inr (congrArg (fun q => q.2) h)
    · exact Or.inl (congrArg (fun q => q.2) h)
  rcases e with rfl | rfl
  · exact ⟨rfl, rfl, rfl, rfl, rfl, rfl, rfl, rfl, rfl, rfl, rfl, rfl, rfl, rfl⟩
  · exact ⟨rfl, rfl, rfl, rfl, rfl, rfl, rfl, rfl, rfl, rfl, rfl, rfl, rfl, rfl⟩
theorem F_put {σ σ2 : AS} {k nl nt nb : Nat} {r u x y : Int} (h : (r, σ2) = sp_put k nl nt nb σ u x y) : σ2 0 6 = σ 0 6 ∧ σ2 0 7 = σ 0 7 := by
  have e : σ2 = σ ∨ σ2 = ap (ap σ (rowA k) u.toNat x) (rowB k) u.toNat y := by
    unfold sp_put at h
    split at h
    · exact Or.inr (congrArg (fun q => q.2) h)
    · exact Or.inl (congrArg (fun q => q.2) h)
  rcases e with rfl | rfl
  · exact ⟨rfl, rfl⟩
  · simp only [ap, up2, if_neg (Ne.symm (rowB_n0 k)), if_neg (Ne.symm (rowA_n0 k)), and_self]
theorem F_clear {σ σ2 : AS} {k nl nt nb nl2 nt2 nb2 : Nat} {r : Int} (h : (r, nl2, nt2, nb2, σ2) = sp_clear k nl nt nb σ) : σ2 0 6 = σ 0 6 ∧ σ2 0 7 = σ 0 7 := by
  have e : σ2 = σ ∨ σ2 = up2 (up2 σ 5 (fun _ => 0)) 6 (fun _ => 0) := by
    unfold sp_clear at h
    split at h
    · exact Or.inl (congrArg (fun q => q.2.2.2.2) h)
    · split at h
      · exact Or.inr (congrArg (fun q => q.2.2.2.2) h)
      · split at h
        · exact Or.inl (congrArg (fun q => q.2.2.2.2) h)
        · exact Or.inl (congrArg (fun q => q.2.2.2.2) h)
  rcases e with rfl | rfl
  · exact ⟨rfl, rfl⟩
  · exact ⟨rfl, rfl⟩
