/-! trees and ways, as the reference looks at them -/
def lab (lf lt : Nat → Int) (S : Nat) : Nat → Nat → Int
  | 0 => fun p => (p : Int)
  | l + 1 => fun p => if S.testBit l = true ∧ lab lf lt S l p = lab lf lt S l (lt l).toNat then lab lf lt S l (lf l).toNat else lab lf lt S l p
def okT (lf lt : Nat → Int) (S : Nat) : Nat → Bool
  | 0 => true
  | l + 1 => okT lf lt S l && decide (¬ (S.testBit l = true ∧ lab lf lt S l (lf l).toNat = lab lf lt S l (lt l).toNat))
theorem okT_t {lf lt : Nat → Int} {S l : Nat} (h : okT lf lt S l = true) (h1 : ¬ (S.testBit l = true ∧ lab lf lt S l (lf l).toNat = lab lf lt S l (lt l).toNat)) : okT lf lt S (l + 1) = true := by
  rw [show okT lf lt S (l + 1) = (okT lf lt S l && decide (¬ (S.testBit l = true ∧ lab lf lt S l (lf l).toNat = lab lf lt S l (lt l).toNat))) from rfl, h, decide_eq_true h1]
  rfl
theorem okT_f {lf lt : Nat → Int} {S l : Nat} (h1 : S.testBit l = true ∧ lab lf lt S l (lf l).toNat = lab lf lt S l (lt l).toNat) : ∀ n, l < n → okT lf lt S n = false := by
  intro n
  induction n with
  | zero => intro h; omega
  | succ n ih =>
    intro h
    rw [show okT lf lt S (n + 1) = (okT lf lt S n && decide (¬ (S.testBit n = true ∧ lab lf lt S n (lf n).toNat = lab lf lt S n (lt n).toNat))) from rfl]
    rcases Nat.lt_or_ge l n with a | a
    · rw [ih a]; rfl
    · have e : l = n := by omega
      subst e
      rw [decide_eq_false (fun hh => hh h1)]; simp
theorem lab_bd {lf lt : Nat → Int} {S n : Nat} (hf : ∀ j : Nat, j < n → 0 ≤ lf j ∧ lf j ≤ 5) : ∀ l, l ≤ n → ∀ p, p < 6 → 0 ≤ lab lf lt S l p ∧ lab lf lt S l p ≤ 5 := by
  intro l
  induction l with
  | zero => intro _ p hp; show 0 ≤ (p : Int) ∧ (p : Int) ≤ 5; omega
  | succ l ih =>
    intro hl p hp
    have h1 := ih (by omega) p hp
    have h2 := ih (by omega) (lf l).toNat (by have := hf l (by omega); omega)
    rw [show lab lf lt S (l + 1) p = if S.testBit l = true ∧ lab lf lt S l p = lab lf lt S l (lt l).toNat then lab lf lt S l (lf l).toNat else lab lf lt S l p from rfl]
    split
    · exact h2
    · exact h1
theorem lab_in {lf lt : Nat → Int} {S l p : Nat} (h1 : S.testBit l = true) (h2 : lab lf lt S l p = lab lf lt S l (lt l).toNat) : lab lf lt S (l + 1) p = lab lf lt S l (lf l).toNat := if_pos ⟨h1, h2⟩
theorem lab_out {lf lt : Nat → Int} {S l p : Nat} (h : ¬ (S.testBit l = true ∧ lab lf lt S l p = lab lf lt S l (lt l).toNat)) : lab lf lt S (l + 1) p = lab lf lt S l p := if_neg h
theorem lab_skip {lf lt f : Nat → Int} {S l : Nat} (h : ∀ p : Nat, p < 6 → f p = lab lf lt S l p) (h1 : ¬ S.testBit l = true) : ∀ p : Nat, p < 6 → f p = lab lf lt S (l + 1) p := fun p hp => by rw [h p hp, lab_out (fun hh => h1 hh.1)]
theorem lab_lo {lf lt f : Nat → Int} {S l q : Nat} {z : Int} (h : ∀ p : Nat, p < q → f p = lab lf lt S (l + 1) p) (hz : z = lab lf lt S (l + 1) q) : ∀ p : Nat, p < q + 1 → va_up f q z p = lab lf lt S (l + 1) p := by
  intro p hp
  by_cases e : p = q
  · subst e; simp only [va_up, if_pos rfl]; exact hz
  · simp only [va_up, if_neg e]; exact h p (by omega)
theorem lab_hi {lf lt f : Nat → Int} {S l q : Nat} {z : Int} (h : ∀ p : Nat, q ≤ p → p < 6 → f p = lab lf lt S l p) : ∀ p : Nat, q + 1 ≤ p → p < 6 → va_up f q z p = lab lf lt S l p := by
  intro p hp hp6
  have e : ¬ p = q := by omega
  simp only [va_up, if_neg e]; exact h p (by omega) hp6
theorem id_up {f : Nat → Int} {q : Nat} (h : ∀ p : Nat, p < q → f p = (p : Int)) : ∀ p : Nat, p < q + 1 → va_up f q (q : Int) p = (p : Int) := by
  intro p hp
  by_cases e : p = q
  · subst e; simp [va_up]
  · simp only [va_up, if_neg e]; exact h p (by omega)
def wnx (lf : Nat → Int) (a : Nat) (left : Nat) : Nat → Int
  | 0 => -1
  | l + 1 => if left.testBit l = true ∧ lf l = (a : Int) then (l : Int) else wnx lf a left l
theorem wnx_in {lf : Nat → Int} {a left l : Nat} (h : left.testBit l = true ∧ lf l = (a : Int)) : (l : Int) = wnx lf a left (l + 1) := (if_pos h).symm
theorem wnx_out {lf : Nat → Int} {a left l : Nat} {x : Int} (hx : x = wnx lf a left l) (h : ¬ (left.testBit l = true ∧ lf l = (a : Int))) : x = wnx lf a left (l + 1) := by
  rw [show wnx lf a left (l + 1) = if left.testBit l = true ∧ lf l = (a : Int) then (l : Int) else wnx lf a left l from rfl, if_neg h]; exact hx
theorem wnx_rg {lf : Nat → Int} {a left : Nat} : ∀ l, -1 ≤ wnx lf a left l ∧ wnx lf a left l < (l : Int) := by
  intro l
  induction l with
  | zero => show -1 ≤ (-1 : Int) ∧ (-1 : Int) < ((0 : Nat) : Int); omega
  | succ l ih =>
    rw [show wnx lf a left (l + 1) = if left.testBit l = true ∧ lf l = (a : Int) then (l : Int) else wnx lf a left l from rfl]
    split <;> omega
def wyF (nl : Nat) (lf lt : Nat → Int) : Nat → Nat → Nat → Nat → Bool
  | 0, _, _, _ => false
  | d + 1, a, met, left => if a = 5 then decide (left = 0) else if wnx lf a left nl = -1 ∨ met.testBit (lt (wnx lf a left nl).toNat).toNat = true then false else wyF nl lf lt d (lt (wnx lf a left nl).toNat).toNat (met ||| 2 ^ (lt (wnx lf a left nl).toNat).toNat) (sdiff left (2 ^ (wnx lf a left nl).toNat))
def un5 (met : Nat) : Nat := un met + (if met.testBit 5 then 0 else 1)
theorem un5_less {met p : Nat} (hp : 0 < p) (hp6 : p < 6) (hs : ¬ met.testBit p = true) : un5 (met ||| 2 ^ p) + 1 = un5 met := by
  unfold un5 un
  simp only [Nat.testBit_or, Nat.testBit_two_pow]
  rcases (show p = 1 ∨ p = 2 ∨ p = 3 ∨ p = 4 ∨ p = 5 by omega) with rfl | rfl | rfl | rfl | rfl <;> simp [hs] <;> omega
theorem wy_5 {nl : Nat} {lf lt : Nat → Int} {d a met left : Nat} (hd : 0 < d) (h : a = 5) : wyF nl lf lt d a met left = decide (left = 0) := by
  cases d with
  | zero => omega
  | succ d => unfold wyF; rw [if_pos h]
theorem wy_no {nl : Nat} {lf lt : Nat → Int} {d a met left : Nat} (h5 : ¬ a = 5) (h : wnx lf a left nl = -1 ∨ met.testBit (lt (wnx lf a left nl).toNat).toNat = true) : wyF nl lf lt d a met left = false := by
  cases d with
  | zero => rfl
  | succ d => unfold wyF; rw [if_neg h5, if_pos h]
theorem wy_go {nl : Nat} {lf lt : Nat → Int} {d a met left : Nat} {x : Int} (hd : 0 < d) (hx : x = wnx lf a left nl) (h5 : ¬ a = 5) (h1 : ¬ x = -1) (h2 : ¬ met.testBit (lt x.toNat).toNat = true) : wyF nl lf lt d a met left = wyF nl lf lt (d - 1) (lt x.toNat).toNat (met ||| 2 ^ (lt x.toNat).toNat) (sdiff left (2 ^ x.toNat)) := by
  cases d with
  | zero => omega
  | succ d =>
    subst hx
    rw [show wyF nl lf lt (d + 1) a met left = if a = 5 then decide (left = 0) else if wnx lf a left nl = -1 ∨ met.testBit (lt (wnx lf a left nl).toNat).toNat = true then false else wyF nl lf lt d (lt (wnx lf a left nl).toNat).toNat (met ||| 2 ^ (lt (wnx lf a left nl).toNat).toNat) (sdiff left (2 ^ (wnx lf a left nl).toNat)) from rfl, if_neg h5, if_neg (fun hh => hh.elim h1 h2)]
    rfl
section XR4
variable {p : Program} {l : Launch} {e : Env} {R : Room} {s : State} {m : MethodId} {args : Array Value} {below : List Frame} {meth : Method} {c : Code} {E : EV} {A : Nat → Prop} {nL cells slots : Nat} {Q : State → Prop} {cc : ByteArray} {own : String} {pc pc' : Nat} {lv : List (Nat × Value)} {st : List Value} {ws : va_W}
theorem x_tsIn (C : Cx p s m args meth c E A nL cc own) {dflt lo hi x off : Int} {offs : Array Int} {len tgt : Nat} (hd : decode cc pc = .ok (.tableswitch dflt lo hi offs, len)) (hx : -2147483648 ≤ x ∧ x < 2147483648) (h1 : lo ≤ x) (h2 : x ≤ hi) (ho : offs[(x - lo).toNat]? = some off) (ht : (pc : Int) + off = (tgt : Int)) (k : Wx p l e R s m args below meth c E A nL cells slots Q tgt (lv) (st) (ws)) : Wx p l e R s m args below meth c E A nL cells slots Q pc (lv) (.int (iI x) :: st) (ws) := by
  intro H locs ls hP hD hS hl
  refine lv_tableIn C.1 C.2.1 hd (by rw [iI_toInt hx]; omega) (by rw [iI_toInt hx]; omega) (by rw [iI_toInt hx]; exact ho) ht (k H locs ls hP hD hS hl)
theorem x_tsOut (C : Cx p s m args meth c E A nL cc own) {dflt lo hi x : Int} {offs : Array Int} {len tgt : Nat} (hd : decode cc pc = .ok (.tableswitch dflt lo hi offs, len)) (hx : -2147483648 ≤ x ∧ x < 2147483648) (h : x < lo ∨ hi < x) (ht : (pc : Int) + dflt = (tgt : Int)) (k : Wx p l e R s m args below meth c E A nL cells slots Q tgt (lv) (st) (ws)) : Wx p l e R s m args below meth c E A nL cells slots Q pc (lv) (.int (iI x) :: st) (ws) := by
  intro H locs ls hP hD hS hl
  refine lv_tableOut C.1 C.2.1 hd (by rw [iI_toInt hx]; exact h) ht (k H locs ls hP hD hS hl)
end XR4
