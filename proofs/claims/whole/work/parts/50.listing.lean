/-! what the five kinds list -/
def fm (F : Nat → List Nat) : Nat → List Nat
  | 0 => []
  | i + 1 => fm F i ++ F i
theorem fm_len {F : Nat → List Nat} {i n : Nat} (h : i < n) : (fm F i).length + (F i).length ≤ (fm F n).length := by
  induction n with
  | zero => omega
  | succ n ih =>
    rw [show fm F (n + 1) = fm F n ++ F n from rfl, List.length_append]
    rcases Nat.lt_or_ge i n with h1 | h1
    · have := ih h1; omega
    · have e : i = n := by omega
      subst e; omega
theorem fm_perm {F : Nat → List Nat} {i : Nat} {xs xs1 xs2 L : List Nat} (h : xs1.Perm (fm F i ++ xs)) (hL : F i = L) (h2 : xs2.Perm (L ++ xs1)) : xs2.Perm (fm F (i + 1) ++ xs) := by
  subst hL
  refine h2.trans ?_
  rw [show fm F (i + 1) = fm F i ++ F i from rfl, List.append_assoc]
  refine (List.Perm.append_left _ h).trans ?_
  rw [← List.append_assoc, ← List.append_assoc]
  exact List.Perm.append_right _ List.perm_append_comm
theorem fm_skip {F : Nat → List Nat} {i : Nat} {xs xs1 : List Nat} (h : xs1.Perm (fm F i ++ xs)) (hL : F i = []) : xs1.Perm (fm F (i + 1) ++ xs) := fm_perm h hL (List.Perm.refl _)
theorem fm_cap {F : Nat → List Nat} {i n N : Nat} {xs xs1 : List Nat} (h : xs1.Perm (fm F i ++ xs)) (hi : i < n) (hc : (fm F n).length + xs.length ≤ N) : (F i).length + xs1.length ≤ N := by
  have h1 := h.length_eq
  rw [List.length_append] at h1
  have := fm_len (F := F) hi
  omega
theorem mem_bd {xs xs2 L : List Nat} {N : Nat} (hp : xs2.Perm (L ++ xs)) (h1 : ∀ x ∈ L, x < N) (h2 : ∀ x ∈ xs, x < N) : ∀ x ∈ xs2, x < N := by
  intro x hx
  rcases List.mem_append.mp (hp.mem_iff.mp hx) with h | h
  · exact h1 x h
  · exact h2 x h
theorem get_bd {xs : List Nat} {N : Nat} (h : ∀ x ∈ xs, x < N) : ∀ (j : Nat) (hj : j < xs.length), xs[j] < N := fun j hj => h _ (List.getElem_mem hj)
theorem one_bd {S N : Nat} (h : S < N) : ∀ x ∈ [S], x < N := by
  intro x hx
  rw [List.mem_singleton.mp hx]; exact h
/-- lists in rising order with the same members are one list -/
theorem filt_eq {xs L : List Nat} {N : Nat} {P : Nat → Bool} (ho : xs.Pairwise (· ≤ ·)) (hp : xs.Perm L) (hd : L.Nodup) (hm : ∀ x, x ∈ L ↔ x < N ∧ P x = true) : xs = (List.range N).filter P := by
  have h1 : ((List.range N).filter P).Pairwise (· ≤ ·) := List.Pairwise.sublist List.filter_sublist (List.pairwise_le_range)
  have hnd : ((List.range N).filter P).Nodup := List.Nodup.sublist List.filter_sublist List.nodup_range
  have hxd : xs.Nodup := hp.symm.nodup hd
  have hpp : xs.Perm ((List.range N).filter P) := by
    rw [List.perm_ext_iff_of_nodup hxd hnd]
    intro a
    rw [hp.mem_iff, hm a, List.mem_filter, List.mem_range]
  exact List.Perm.eq_of_pairwise (fun a b _ _ h1 h2 => Nat.le_antisymm h1 h2) ho h1 hpp
theorem filt_step {xs xs2 : List Nat} {i : Nat} {P : Nat → Bool} (hx : xs = (List.range i).filter P) (hP : P i = true) (ho : xs2.Pairwise (· ≤ ·)) (hp : xs2.Perm (i :: xs)) : xs2 = (List.range (i + 1)).filter P := by
  refine filt_eq ho hp ?_ ?_
  · rw [List.nodup_cons]
    subst hx
    refine ⟨fun h => ?_, List.Nodup.sublist List.filter_sublist List.nodup_range⟩
    have := List.mem_range.mp (List.mem_filter.mp h).1
    omega
  · intro x
    subst hx
    rw [List.mem_cons, List.mem_filter, List.mem_range]
    constructor
    · rintro (rfl | ⟨h1, h2⟩)
      · exact ⟨by omega, hP⟩
      · exact ⟨by omega, h2⟩
    · rintro ⟨h1, h2⟩
      by_cases e : x = i
      · exact Or.inl e
      · exact Or.inr ⟨by omega, h2⟩
theorem filt_skip {xs : List Nat} {i : Nat} {P : Nat → Bool} (hx : xs = (List.range i).filter P) (hP : ¬ P i = true) : xs = (List.range (i + 1)).filter P := by
  rw [List.range_succ, List.filter_append, ← hx]
  simp [hP]
theorem filt_len {i : Nat} {P : Nat → Bool} : ((List.range i).filter P).length ≤ i := by
  have := List.length_filter_le P (List.range i)
  rwa [List.length_range] at this
theorem filt_bd {xs : List Nat} {i N : Nat} {P : Nat → Bool} (hx : xs = (List.range i).filter P) (h : i ≤ N) : ∀ x ∈ xs, x < N := by
  intro x hm
  subst hx
  have := List.mem_range.mp (List.mem_filter.mp hm).1
  omega
theorem filt_so {xs : List Nat} {i : Nat} {P : Nat → Bool} (hx : xs = (List.range i).filter P) : xs.Pairwise (· ≤ ·) := by
  subst hx
  exact List.Pairwise.sublist List.filter_sublist (List.pairwise_le_range)
def ftL (w : Nat → Int) (nt : Nat) (room : Int) (S : Nat) : Bool := decide (sumB w S nt ≤ room)
def ftH (bn : Nat → Int) (S : Nat) : Nat → Bool
  | 0 => true
  | i + 1 => ftH bn S i && (!S.testBit i || decide (sdiff (bn i).toNat S = 0))
theorem ftH_f {bn : Nat → Int} {S i : Nat} (h1 : S.testBit i = true) (h2 : sdiff (bn i).toNat S ≠ 0) : ∀ n, i < n → ftH bn S n = false := by
  intro n
  induction n with
  | zero => intro h; omega
  | succ n ih =>
    intro h
    unfold ftH
    rcases Nat.lt_or_ge i n with a | a
    · rw [ih a]; rfl
    · have e : i = n := by omega
      subst e
      rw [h1]; simp [h2]
theorem ftH_t {bn : Nat → Int} {S i : Nat} (h : ftH bn S i = true) (h1 : ¬ (S.testBit i = true ∧ sdiff (bn i).toNat S ≠ 0)) : ftH bn S (i + 1) = true := by
  unfold ftH
  rw [h]
  cases hb : S.testBit i
  · rfl
  · by_cases h2 : sdiff (bn i).toNat S = 0
    · simp [h2]
    · exact absurd ⟨hb, h2⟩ h1
/-- ways: the links that leave the point for one not seen -/
def wk (nl : Nat) (lf lt : Nat → Int) : Nat → Nat → Nat → Nat → List Nat
  | 0, _, _, _ => []
  | d + 1, pt, seen, way => fm (fun i => if lf i ≠ (pt : Int) ∨ seen.testBit (lt i).toNat = true then [] else if lt i = 5 then [way ||| 2 ^ i] else wk nl lf lt d (lt i).toNat (seen ||| 2 ^ (lt i).toNat) (way ||| 2 ^ i)) nl
def wkF (nl : Nat) (lf lt : Nat → Int) (d pt seen way : Nat) : Nat → List Nat := fun i => if lf i ≠ (pt : Int) ∨ seen.testBit (lt i).toNat = true then [] else if lt i = 5 then [way ||| 2 ^ i] else wk nl lf lt d (lt i).toNat (seen ||| 2 ^ (lt i).toNat) (way ||| 2 ^ i)
theorem wk_F (nl : Nat) (lf lt : Nat → Int) (d pt seen way : Nat) : wk nl lf lt (d + 1) pt seen way = fm (wkF nl lf lt d pt seen way) nl := rfl
def un (seen : Nat) : Nat := (if seen.testBit 1 then 0 else 1) + (if seen.testBit 2 then 0 else 1) + (if seen.testBit 3 then 0 else 1) + (if seen.testBit 4 then 0 else 1)
theorem un_less {seen p : Nat} (hp : 0 < p) (hp5 : p < 5) (hs : ¬ seen.testBit p = true) : un (seen ||| 2 ^ p) + 1 = un seen := by
  unfold un
  simp only [Nat.testBit_or, Nat.testBit_two_pow]
  rcases (show p = 1 ∨ p = 2 ∨ p = 3 ∨ p = 4 by omega) with rfl | rfl | rfl | rfl <;> simp [hs] <;> omega
theorem or_bd {a i : Nat} {N : Nat} (ha : a < 2 ^ N) (hi : i < N) : a ||| 2 ^ i < 2 ^ N := Nat.or_lt_two_pow ha (Nat.pow_lt_pow_right (by decide) hi)
theorem wk_bd {nl : Nat} {lf lt : Nat → Int} (hnl : nl ≤ 14) : ∀ (d pt seen way : Nat), way < 16384 → ∀ x ∈ wk nl lf lt d pt seen way, x < 16384 := by
  intro d
  induction d with
  | zero => intro pt seen way _ x hx; exact absurd hx List.not_mem_nil
  | succ d ih =>
    intro pt seen way hw
    have key : ∀ i, i ≤ nl → ∀ x ∈ fm (wkF nl lf lt d pt seen way) i, x < 16384 := by
      intro i
      induction i with
      | zero => intro _ x hx; exact absurd hx List.not_mem_nil
      | succ i ih2 =>
        intro hi x hx
        rcases List.mem_append.mp hx with h | h
        · exact ih2 (by omega) x h
        · have hb : way ||| 2 ^ i < 2 ^ 14 := or_bd (N := 14) hw (by omega)
          unfold wkF at h
          split at h
          · exact absurd h List.not_mem_nil
          · split at h
            · rw [List.mem_singleton.mp h]; exact hb
            · exact ih _ _ _ hb x h
    rw [wk_F]
    exact key nl (Nat.le_refl _)
theorem sumB_w {w : Nat → Int} {S n : Nat} (h : ∀ j : Nat, j < n → 1 ≤ w j ∧ w j ≤ 50) : 0 ≤ sumB w S n ∧ sumB w S n ≤ 50 * (n : Int) := by
  induction n with
  | zero => unfold sumB; omega
  | succ n ih =>
    have h1 := ih (fun j hj => h j (by omega))
    have h2 := h n (by omega)
    unfold sumB
    split <;> omega
theorem sumB_in {f : Nat → Int} {S i : Nat} (h : S.testBit i = true) : sumB f S i + f i = sumB f S (i + 1) := by
  rw [show sumB f S (i + 1) = sumB f S i + (if S.testBit i then f i else 0) from rfl, if_pos h]
theorem sumB_out {f : Nat → Int} {S i : Nat} (h : ¬ S.testBit i = true) : sumB f S i = sumB f S (i + 1) := by
  rw [show sumB f S (i + 1) = sumB f S i + (if S.testBit i then f i else 0) from rfl, if_neg h, Int.add_zero]
theorem pow_8 {n : Nat} (h : n ≤ 8) : 2 ^ n ≤ 256 := Nat.le_trans (Nat.pow_le_pow_right (by decide) h) (by decide)
/-! trees: how many bits, which group, groups made one; pairings -/
def pc1 (S : Nat) : Nat := S - (S / 2 ^ 1 &&& 1431655765)
def pc2 (S : Nat) : Nat := (pc1 S &&& 858993459) + (pc1 S / 2 ^ 2 &&& 858993459)
def pc3 (S : Nat) : Nat := (pc2 S + pc2 S / 2 ^ 4) &&& 252645135
def pc4 (S : Nat) : Nat := pc3 S + pc3 S / 2 ^ 8
def pc5 (S : Nat) : Nat := pc4 S + pc4 S / 2 ^ 16
def popc (S : Nat) : Nat := pc5 S &&& 63
theorem pc_b1 (S : Nat) : (S / 2 ^ 1 &&& 1431655765) ≤ S := Nat.le_trans Nat.and_le_left (Nat.div_le_self _ _)
theorem pc_b2 (S : Nat) : pc1 S ≤ S := Nat.sub_le _ _
theorem pc_b3 (S : Nat) : pc2 S ≤ 2 * S := by
  have h1 : (pc1 S &&& 858993459) ≤ pc1 S := Nat.and_le_left
  have h2 : (pc1 S / 2 ^ 2 &&& 858993459) ≤ pc1 S := Nat.le_trans Nat.and_le_left (Nat.div_le_self _ _)
  have := pc_b2 S
  unfold pc2; omega
theorem pc_b4 (S : Nat) : pc3 S ≤ 4 * S := by
  have h1 : pc3 S ≤ pc2 S + pc2 S / 2 ^ 4 := Nat.and_le_left
  have h2 : pc2 S / 2 ^ 4 ≤ pc2 S := Nat.div_le_self _ _
  have := pc_b3 S
  omega
theorem pc_b5 (S : Nat) : pc4 S ≤ 8 * S := by
  have h2 : pc3 S / 2 ^ 8 ≤ pc3 S := Nat.div_le_self _ _
  have := pc_b4 S
  unfold pc4; omega
theorem pc_b6 (S : Nat) : pc5 S ≤ 16 * S := by
  have h2 : pc4 S / 2 ^ 16 ≤ pc4 S := Nat.div_le_self _ _
  have := pc_b5 S
  unfold pc5; omega
theorem popc_le (S : Nat) : popc S ≤ 63 := Nat.and_le_right
theorem bt_ushr {a n : Nat} (ha : a < 2147483648) (h : n < 32) : ((iI (a : Int)).toUInt32 >>> ((iI (n : Int)).toUInt32 &&& Int32.toUInt32 31)).toInt32 = iI ((a / 2 ^ n : Nat) : Int) := by
  rw [iI_nat, iI_nat, iI_nat]
  have hs : (((nI n).toUInt32 &&& Int32.toUInt32 31).toBitVec % 32).toNat = n := by
    have : ∀ n, n < 32 → (((nI n).toUInt32 &&& Int32.toUInt32 31).toBitVec % 32).toNat = n := by decide +kernel
    exact this n h
  exact pk_ushrN (by omega) (nI n) n hs
theorem bt_shl2 {a n : Nat} (h : n < 31) (hb : a * 2 ^ n < 2147483648) : iI (a : Int) <<< (iI (n : Int) &&& 31) = iI ((a * 2 ^ n : Nat) : Int) := by
  rw [iI_nat, iI_nat, iI_nat]
  have hs : ((nI n &&& 31).toBitVec.smod 32).toNat = n := by
    have : ∀ n, n < 32 → ((nI n &&& 31).toBitVec.smod 32).toNat = n := by decide +kernel
    exact this n (by omega)
  exact pk_shlN (nI n &&& 31) n hs (by omega)
def grp (g p : Nat) : Nat := g / 2 ^ (3 * p) &&& 7
theorem grp_le (g p : Nat) : grp g p ≤ 7 := Nat.and_le_right
def unt (g a b : Nat) : Nat → Nat
  | 0 => g
  | p + 1 => if grp g p = b then unt g a b p ^^^ ((a ^^^ b) * 2 ^ (3 * p)) else unt g a b p
theorem unt_bd {g a b : Nat} (hg : g < 2 ^ 18) (ha : a ≤ 7) (hb : b ≤ 7) : ∀ p, p ≤ 6 → unt g a b p < 2 ^ 18 := by
  intro p
  induction p with
  | zero => intro _; exact hg
  | succ p ih =>
    intro hp
    have h1 := ih (by omega)
    rw [show unt g a b (p + 1) = if grp g p = b then unt g a b p ^^^ ((a ^^^ b) * 2 ^ (3 * p)) else unt g a b p from rfl]
    split
    · refine Nat.xor_lt_two_pow h1 ?_
      have hx : a ^^^ b < 2 ^ 3 := Nat.xor_lt_two_pow (show a < 2 ^ 3 by omega) (show b < 2 ^ 3 by omega)
      have h2 : 2 ^ (3 * p) ≤ 2 ^ 15 := Nat.pow_le_pow_right (by decide) (by omega)
      calc (a ^^^ b) * 2 ^ (3 * p) ≤ 7 * 2 ^ 15 := Nat.mul_le_mul (by omega) h2
        _ < 2 ^ 18 := by decide
    · exact h1
def hg (lf lt : Nat → Int) : Nat → Nat → Nat → List Nat
  | 0, tree, _ => if popc tree = 5 then [tree] else []
  | m + 1, tree, g => if popc tree = 5 then [tree] else if ((m + 1 : Nat) : Int) < 5 - (popc tree : Int) then [] else hg lf lt m tree g ++ (if grp g (lf m).toNat = grp g (lt m).toNat then [] else hg lf lt m (tree ||| 2 ^ m) (unt g (grp g (lf m).toNat) (grp g (lt m).toNat) 6))
theorem hg_5 {lf lt : Nat → Int} {m tree g : Nat} (h : popc tree = 5) : hg lf lt m tree g = [tree] := by
  cases m <;> (unfold hg; rw [if_pos h])
theorem hg_0 {lf lt : Nat → Int} {m tree g : Nat} (h : popc tree ≠ 5) (hm : m = 0 ∨ (m : Int) < 5 - (popc tree : Int)) : hg lf lt m tree g = [] := by
  cases m with
  | zero => unfold hg; rw [if_neg h]
  | succ m =>
    unfold hg
    rw [if_neg h, if_pos (by omega)]
theorem hg_s {lf lt : Nat → Int} {m tree g : Nat} (h : popc tree ≠ 5) (hm : 0 < m) (h2 : ¬ (m : Int) < 5 - (popc tree : Int)) : hg lf lt m tree g = hg lf lt (m - 1) tree g ++ (if grp g (lf (m - 1)).toNat = grp g (lt (m - 1)).toNat then [] else hg lf lt (m - 1) (tree ||| 2 ^ (m - 1)) (unt g (grp g (lf (m - 1)).toNat) (grp g (lt (m - 1)).toNat) 6)) := by
  cases m with
  | zero => omega
  | succ m =>
    rw [show hg lf lt (m + 1) tree g = (if popc tree = 5 then [tree] else if ((m + 1 : Nat) : Int) < 5 - (popc tree : Int) then [] else hg lf lt m tree g ++ (if grp g (lf m).toNat = grp g (lt m).toNat then [] else hg lf lt m (tree ||| 2 ^ m) (unt g (grp g (lf m).toNat) (grp g (lt m).toNat) 6))) from rfl, if_neg h, if_neg h2]
    rfl
theorem two_perm {V U W xs xs1 xs2 : List Nat} (h : V = U ++ W) (h1 : xs1.Perm (U ++ xs)) (h2 : xs2.Perm (W ++ xs1)) : xs2.Perm (V ++ xs) := by
  subst h
  refine h2.trans ((List.Perm.append_left _ h1).trans ?_)
  rw [← List.append_assoc]
  exact List.Perm.append_right _ List.perm_append_comm
def mt (taken pairing : Nat) : Nat → List Nat := fun d => match d with
  | 0 => [pairing]
  | d + 1 => fm (fun j => if taken.testBit j = true then [] else mt (taken ||| 2 ^ j) (pairing ||| 2 ^ (4 * d + j)) d) 4
