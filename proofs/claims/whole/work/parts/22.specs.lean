/-! the calls that change the state, as functions of it: answer, and what it is behind -/
def ap (σ : Nat → Nat → Int) (r i : Nat) (z : Int) : Nat → Nat → Int := up2 σ r (va_up (σ r) i z)
theorem mI_ap {r w d i : Nat} {σ : Nat → Nat → Int} {z : Int} (h : d < w) : va_up (mI r w σ) (w * i + d) z = mI r w (ap σ (r + d) i z) := mI_up h
theorem mI_ap0 {r w i : Nat} {σ : Nat → Nat → Int} {z : Int} (h : 0 < w) : va_up (mI r w σ) (w * i) z = mI r w (ap σ r i z) := mI_up (d := 0) h
theorem mI_apO {r w q i : Nat} {σ : Nat → Nat → Int} {z : Int} (hw : 0 < w) (h : q < r ∨ r + w ≤ q) : mI r w (ap σ q i z) = mI r w σ := mI_other hw h
def lineP (x y : Int) : Prop := (-100 ≤ x ∧ x ≤ 100) ∧ (-100 ≤ y ∧ y ≤ 100)
abbrev AS : Type := Nat → Nat → Int
def sp_top (σ : AS) (t : Int) : Int × AS := if 1 ≤ t ∧ t ≤ 100 then (σ 0 0, ap σ 0 0 t) else (-2, σ)
def sp_kind (k : Nat) (t : Int) : Int × Nat := if 0 ≤ t ∧ t < 5 then ((k : Int), t.toNat) else (-2, k)
def sp_link (nl : Nat) (σ : AS) (u v x y : Int) : Int × Nat × AS := if (0 ≤ u ∧ u < 6) ∧ (0 ≤ v ∧ v < 6) ∧ u ≠ v ∧ (-100 ≤ x ∧ x ≤ 100) ∧ (-100 ≤ y ∧ y ≤ 100) then (if 14 ≤ nl then (-4, nl, σ) else ((nl : Int), nl + 1, ap (ap (ap (ap σ 1 nl u) 2 nl v) 3 nl x) 4 nl y)) else (-2, nl, σ)
def sp_pair (σ : AS) (u v x y : Int) : Int × AS := if (0 ≤ u ∧ u < 4) ∧ (0 ≤ v ∧ v < 4) ∧ (-100 ≤ x ∧ x ≤ 100) ∧ (-100 ≤ y ∧ y ≤ 100) then (1, ap (ap σ 5 (4 * u + v).toNat x) 6 (4 * u + v).toNat y) else (-2, σ)
def sp_thing (nt : Nat) (σ : AS) (w x y : Int) : Int × Nat × AS := if (1 ≤ w ∧ w ≤ 50) ∧ (-100 ≤ x ∧ x ≤ 100) ∧ (-100 ≤ y ∧ y ≤ 100) then (if 8 ≤ nt then (-4, nt, σ) else ((nt : Int), nt + 1, ap (ap (ap σ 7 nt w) 8 nt x) 9 nt y)) else (-2, nt, σ)
def sp_room (σ : AS) (t : Int) : Int × AS := if 0 ≤ t ∧ t ≤ 200 then (σ 0 4, ap σ 0 4 t) else (-2, σ)
def sp_block (nb : Nat) (σ : AS) (x y : Int) : Int × Nat × AS := if (-100 ≤ x ∧ x ≤ 100) ∧ (-100 ≤ y ∧ y ≤ 100) then (if 8 ≤ nb then (-4, nb, σ) else ((nb : Int), nb + 1, ap (ap (ap σ 10 nb x) 11 nb y) 12 nb 0)) else (-2, nb, σ)
def sp_needs (nb : Nat) (σ : AS) (u v z : Int) : Int × AS := if (0 ≤ u ∧ u < (nb : Int)) ∧ (0 ≤ v ∧ v < (nb : Int)) ∧ u ≠ v then (if bI ((σ 12 u.toNat).toNat.testBit v.toNat = true) = z then (-3, σ) else (1, ap σ 12 u.toNat (((σ 12 u.toNat).toNat ^^^ 2 ^ v.toNat : Nat) : Int))) else (-2, σ)
def npF (k nl nt nb : Nat) : Nat := if k < 2 then nl else if k = 2 then 16 else if k = 3 then nt else nb
def rowA (k : Nat) : Nat := if k < 2 then 3 else if k = 2 then 5 else if k = 3 then 8 else 10
def rowB (k : Nat) : Nat := if k < 2 then 4 else if k = 2 then 6 else if k = 3 then 9 else 11
def sp_put (k nl nt nb : Nat) (σ : AS) (u x y : Int) : Int × AS := if (0 ≤ u ∧ u < (npF k nl nt nb : Int)) ∧ (-100 ≤ x ∧ x ≤ 100) ∧ (-100 ≤ y ∧ y ≤ 100) then (1, ap (ap σ (rowA k) u.toNat x) (rowB k) u.toNat y) else (-2, σ)
def sp_clear (k nl nt nb : Nat) (σ : AS) : Int × Nat × Nat × Nat × AS := if k < 2 then ((nl : Int), 0, nt, nb, σ) else if k = 2 then (16, nl, nt, nb, up2 (up2 σ 5 (fun _ => 0)) 6 (fun _ => 0)) else if k = 3 then ((nt : Int), nl, 0, nb, σ) else ((nb : Int), nl, nt, 0, σ)
def sp_count (k nl nt nb : Nat) (t : Int) : Int := if t = 0 then (nl : Int) else if t = 1 then (nt : Int) else if t = 2 then (nb : Int) else if t = 3 then (npF k nl nt nb : Int) else -2
def sp_part (σ : AS) (t : Int) : Int := if t = 0 then σ 0 6 else if t = 1 then σ 0 7 else -1000000000000
def sp_digest (k nl nt nb : Nat) (σ : AS) : Int :=
  mx (mx (mix3 (σ 10) (σ 11) (σ 12) nb (mx (mix3 (σ 7) (σ 8) (σ 9) nt (mixP (σ 5) (σ 6) 16 (mixL (σ 1) (σ 2) (σ 3) (σ 4) nl (mx (mx (mx (mx (mx (mx 443 (σ 0 0)) (k : Int)) (nl : Int)) (nt : Int)) (nb : Int)) (npF k nl nt nb : Int))))) (σ 0 4))) (σ 0 6)) (σ 0 7)
/-- what holds of the state at all times -/
def SI (k nl nt nb : Nat) (σ : AS) : Prop := k < 5 ∧ nl ≤ 14 ∧ nt ≤ 8 ∧ nb ≤ 8 ∧ (1 ≤ σ 0 0 ∧ σ 0 0 ≤ 100) ∧ (0 ≤ σ 0 4 ∧ σ 0 4 ≤ 200) ∧
  (∀ j : Nat, j < nl → 0 ≤ σ 1 j ∧ σ 1 j ≤ 5) ∧ (∀ j : Nat, j < nl → 0 ≤ σ 2 j ∧ σ 2 j ≤ 5) ∧ (∀ j : Nat, j < nl → σ 1 j ≠ σ 2 j) ∧ (∀ j : Nat, j < nl → -100 ≤ σ 3 j ∧ σ 3 j ≤ 100) ∧ (∀ j : Nat, j < nl → -100 ≤ σ 4 j ∧ σ 4 j ≤ 100) ∧
  (∀ j : Nat, j < 16 → -100 ≤ σ 5 j ∧ σ 5 j ≤ 100) ∧ (∀ j : Nat, j < 16 → -100 ≤ σ 6 j ∧ σ 6 j ≤ 100) ∧
  (∀ j : Nat, j < nt → 1 ≤ σ 7 j ∧ σ 7 j ≤ 50) ∧ (∀ j : Nat, j < nt → -100 ≤ σ 8 j ∧ σ 8 j ≤ 100) ∧ (∀ j : Nat, j < nt → -100 ≤ σ 9 j ∧ σ 9 j ≤ 100) ∧
  (∀ j : Nat, j < nb → -100 ≤ σ 10 j ∧ σ 10 j ≤ 100) ∧ (∀ j : Nat, j < nb → -100 ≤ σ 11 j ∧ σ 11 j ≤ 100) ∧ (∀ j : Nat, j < nb → 0 ≤ σ 12 j ∧ σ 12 j < 256)
theorem SI_1 {k nl nt nb : Nat} {σ : AS} (h : SI k nl nt nb σ) : k < 5 ∧ nl ≤ 14 ∧ nt ≤ 8 ∧ nb ≤ 8 := ⟨h.1, h.2.1, h.2.2.1, h.2.2.2.1⟩
/-- the kinds' row of the class -/
def kF (ad : Nat → Nat) : Nat → Option Nat := fun j => if j = 0 then some (ad 20) else if j = 1 then some (ad 21) else if j = 2 then some (ad 22) else if j = 3 then some (ad 9) else some (ad 14)
theorem cell_ext_i {cA : ClassId} {n : Nat} {f g : Nat → Int} (h : ∀ j : Nat, j < n → f j = g j) : vp_cell cA (n, .inl (fun j => iI (f j))) = vp_cell cA (n, .inl (fun j => iI (g j))) := by
  rw [vp_cell_i, vp_cell_i]
  unfold arrV
  congr 2
  funext j
  simp only [h j.val j.isLt]
theorem cell_ext_l {cA : ClassId} {n : Nat} {f g : Nat → Int} (h : ∀ j : Nat, j < n → f j = g j) : vp_cell cA (n, .inr (.inl (fun j => lI (f j)))) = vp_cell cA (n, .inr (.inl (fun j => lI (g j)))) := by
  rw [vp_cell_l, vp_cell_l]
  unfold arrV
  congr 2
  funext j
  simp only [h j.val j.isLt]
section XR3
variable {p : Program} {l : Launch} {e : Env} {R : Room} {s : State} {m : MethodId} {args : Array Value} {below : List Frame} {meth : Method} {c : Code} {E : EV} {A : Nat → Prop} {nL cells slots : Nat} {Q : State → Prop} {cc : ByteArray} {own : String} {pc pc' : Nat} {lv : List (Nat × Value)} {st : List Value} {ws : va_W}
theorem x_fi {a n : Nat} {f g : Nat → Int} {ws' : va_W} (q0 : Nat) (he : ws[q0]? = some (a, ia E n f)) (h : ∀ j : Nat, j < n → f j = g j) (hw : ws.set q0 (a, ia E n g) = ws') (kk : Wx p l e R s m args below meth c E A nL cells slots Q pc (lv) (st) (ws')) : Wx p l e R s m args below meth c E A nL cells slots Q pc (lv) (st) (ws) := by
  subst hw
  intro H locs ls hP hD hS hl
  have hb := List.getElem?_eq_some_iff.mp he
  refine kk H locs ls (fun k q hq => ?_) ?_ hS hl
  · rw [List.getElem?_set] at hq
    by_cases hk : q0 = k
    · rw [if_pos hk] at hq
      subst hk
      rw [if_pos hb.1] at hq
      cases hq
      have h1 := hP q0 _ he
      show H[a]? = some _
      rw [← cell_ext_i h]
      exact h1
    · rw [if_neg hk] at hq
      exact hP k q hq
  · have key : ∀ (k : Nat) (q : Nat × va_E), (ws.set q0 (a, ia E n g))[k]? = some q → ∃ q', ws[k]? = some q' ∧ q'.1 = q.1 := by
      intro k q hq
      rw [List.getElem?_set] at hq
      by_cases hk : q0 = k
      · rw [if_pos hk] at hq
        subst hk
        rw [if_pos hb.1] at hq
        cases hq
        exact ⟨_, he, rfl⟩
      · rw [if_neg hk] at hq
        exact ⟨q, hq, rfl⟩
    refine ⟨fun i j p q hp hq hpq => ?_, fun k q hq => ?_⟩
    · obtain ⟨p', hp', e1⟩ := key i p hp
      obtain ⟨q', hq', e2⟩ := key j q hq
      exact hD.1 i j p' q' hp' hq' (by rw [e1, e2, hpq])
    · obtain ⟨q', hq', e2⟩ := key k q hq
      rw [← e2]
      exact hD.2 k q' hq'
theorem x_fl {a n : Nat} {f g : Nat → Int} {ws' : va_W} (q0 : Nat) (he : ws[q0]? = some (a, la E n f)) (h : ∀ j : Nat, j < n → f j = g j) (hw : ws.set q0 (a, la E n g) = ws') (kk : Wx p l e R s m args below meth c E A nL cells slots Q pc (lv) (st) (ws')) : Wx p l e R s m args below meth c E A nL cells slots Q pc (lv) (st) (ws) := by
  subst hw
  intro H locs ls hP hD hS hl
  have hb := List.getElem?_eq_some_iff.mp he
  refine kk H locs ls (fun k q hq => ?_) ?_ hS hl
  · rw [List.getElem?_set] at hq
    by_cases hk : q0 = k
    · rw [if_pos hk] at hq
      subst hk
      rw [if_pos hb.1] at hq
      cases hq
      have h1 := hP q0 _ he
      show H[a]? = some _
      rw [← cell_ext_l h]
      exact h1
    · rw [if_neg hk] at hq
      exact hP k q hq
  · have key : ∀ (k : Nat) (q : Nat × va_E), (ws.set q0 (a, la E n g))[k]? = some q → ∃ q', ws[k]? = some q' ∧ q'.1 = q.1 := by
      intro k q hq
      rw [List.getElem?_set] at hq
      by_cases hk : q0 = k
      · rw [if_pos hk] at hq
        subst hk
        rw [if_pos hb.1] at hq
        cases hq
        exact ⟨_, he, rfl⟩
      · rw [if_neg hk] at hq
        exact ⟨q, hq, rfl⟩
    refine ⟨fun i j p q hp hq hpq => ?_, fun k q hq => ?_⟩
    · obtain ⟨p', hp', e1⟩ := key i p hp
      obtain ⟨q', hq', e2⟩ := key j q hq
      exact hD.1 i j p' q' hp' hq' (by rw [e1, e2, hpq])
    · obtain ⟨q', hq', e2⟩ := key k q hq
      rw [← e2]
      exact hD.2 k q' hq'
end XR3
