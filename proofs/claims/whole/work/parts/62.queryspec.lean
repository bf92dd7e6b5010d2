/-! the asking calls of the class, as functions of its list and its pieces -/
def qBest (n : Nat) (bt a b : Nat → Int) (sg : Int) (σ : AS) (p q : Int) : Int × AS := if n = 0 then (-3, σ) else (bt (best (cst sg a b p q) n), tl σ (a (best (cst sg a b p q) n) * q + b (best (cst sg a b p q) n) * p) q)
def qRatio (n : Nat) (bt a b : Nat → Int) (sg : Int) (σ : AS) : Int × AS := if sg = -1 ∨ n = 0 ∨ ¬ (∀ j : Nat, j < n → 0 < b j) then (-3, σ) else (bt (lrat a b n), tl σ (a (lrat a b n)) (b (lrat a b n)))
def rueF (a b : Nat → Int) (sg T : Int) (u v : Nat) : Nat → Int := fun jj_ => max (cst sg a b 0 1 jj_ - cst sg a b 0 1 u) (cst sg a b T 1 jj_ - cst sg a b T 1 v)
def qRue (n : Nat) (bt a b : Nat → Int) (sg T : Int) (σ : AS) : Int × AS := if n = 0 then (-3, σ) else (bt (best (rueF a b sg T (best (cst sg a b 0 1) n) (best (cst sg a b T 1) n)) n), tl σ (rueF a b sg T (best (cst sg a b 0 1) n) (best (cst sg a b T 1) n) (best (rueF a b sg T (best (cst sg a b 0 1) n) (best (cst sg a b T 1) n)) n)) 1)
def pcn (c : Nat → Nat) : Nat → Int
  | 0 => 0
  | t + 1 => if c (t + 1) = c t then pcn c t else pcn c t + 1
def bpl (n : Nat) (a b : Nat → Int) (sg : Int) : Nat → Nat := fun t => best (cst sg a b (t : Int) 1) n
theorem pcn_ne {c : Nat → Nat} {t : Nat} {z : Int} (hz : z = pcn c t) (h : ¬ (c (t + 1) : Int) = (c t : Int)) : z + 1 = pcn c (t + 1) := by
  rw [show pcn c (t + 1) = if c (t + 1) = c t then pcn c t else pcn c t + 1 from rfl, if_neg (by omega), hz]
theorem pcn_eq {c : Nat → Nat} {t : Nat} {z : Int} (hz : z = pcn c t) (h : (c (t + 1) : Int) = (c t : Int)) : z = pcn c (t + 1) := by
  rw [show pcn c (t + 1) = if c (t + 1) = c t then pcn c t else pcn c t + 1 from rfl, if_pos (by omega), hz]
def qPiece (n c : Nat) (bt a b fp : Nat → Int) (i w : Int) : Int := if i < 0 ∨ ¬ (0 ≤ w ∧ w < 3) then -100000 else if c = 0 then -200000 else if (c : Int) ≤ i then -100000 else if w = 0 then bt (fp i.toNat).toNat else if w = 1 then a (fp i.toNat).toNat else b (fp i.toNat).toNat
def qChange (c : Nat) (fA fB : Nat → Int) (σ : AS) (i : Int) : Int × AS := if i < 0 then (-2, σ) else if c = 0 then (-3, σ) else if (c : Int) ≤ i + 1 then (-2, σ) else (1, tl σ (fA (i + 1).toNat) (fB (i + 1).toNat))
def qHigh (c : Nat) (v fA fB : Nat → Int) (σ : AS) (w : Int) : Int × AS := if ¬ (0 ≤ w ∧ w < 2) then (-2, σ) else if c = 0 then (-3, σ) else if w = 0 then (1, tl σ (fA (hend v fB c)) (fB (hend v fB c))) else (1, tl σ (v (hend v fB c)) (fB (hend v fB c)))
/-- what the pieces' rows hold, for the calls that read them -/
theorem CP_bd {k nl nt nb : Nat} {σ κ ρ : AS} {n c : Nat} {sg : Int} (hs : SI k nl nt nb σ) (hcap : (lst k nl nt nb σ).length ≤ 2002) (hl : CL k nl nt nb σ κ n sg) (h : CP σ κ ρ n c sg) (hc : c ≠ 0) : 0 < n ∧ (0 < c ∧ c ≤ 140) ∧ (∀ j : Nat, j < c → 0 ≤ ρ 1 j ∧ ρ 1 j < (n : Int)) ∧ (∀ j : Nat, j ≤ c → (0 ≤ ρ 2 j ∧ ρ 2 j ≤ 3200) ∧ (1 ≤ ρ 3 j ∧ ρ 3 j ≤ 3200)) := by
  rcases h with ⟨_, h⟩ | ⟨h0, h1, h2, h3, h4, h5, h6, h7⟩
  · exact absurd h hc
  · have hb := CL_bd hs hcap hl
    have ht := SI_top hs
    refine ⟨h0, ⟨h1, h2⟩, fun j hj => ?_, fun j hj => ?_⟩
    · rw [(h5 j hj).1]
      rcases pseq_plan (A := fun q => sg * κ 2 q) (B := fun q => sg * κ 3 q) (T := σ 0 0) h0 j with e | ⟨i, hi, e⟩
      · exact absurd e (h4 j hj)
      · rw [e]; omega
    · rcases Nat.lt_or_ge j c with hjc | hjc
      · rw [(h5 j hjc).2.1, (h5 j hjc).2.2]
        exact pseq_bd hb.2.1 hb.2.2.1 hb.2.2.2 h0 ht j (h4 j hjc)
      · have e : j = c := by omega
        subst e
        rw [h6, h7]; omega
