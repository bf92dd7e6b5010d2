def bI (P : Prop) [Decidable P] : Int := if P then 1 else 0
theorem bI_t {P : Prop} [Decidable P] (h : P) : bI P = 1 := if_pos h
theorem bI_f {P : Prop} [Decidable P] (h : ¬ P) : bI P = 0 := if_neg h
theorem bI_z {P : Prop} [Decidable P] (h : bI P = 0) : ¬ P := fun hp => by rw [bI_t hp] at h; cases h
theorem bI_nz {P : Prop} [Decidable P] (h : bI P ≠ 0) : P := by
  by_cases hp : P
  · exact hp
  · exact absurd (bI_f hp) h
theorem bI_1 {P : Prop} [Decidable P] (h : bI P = 1) : P := bI_nz (by omega)
theorem bI_n1 {P : Prop} [Decidable P] (h : bI P ≠ 1) : ¬ P := fun hp => h (bI_t hp)
theorem bI_rng {P : Prop} [Decidable P] : -2147483648 ≤ bI P ∧ bI P < 2147483648 := by unfold bI; split <;> omega
theorem bI_01 (P : Prop) [Decidable P] : bI P = 0 ∨ bI P = 1 := by unfold bI; split <;> omega
theorem bI_c {P Q : Prop} [Decidable P] [Decidable Q] (h : P ↔ Q) : bI P = bI Q := by
  by_cases hp : P
  · rw [bI_t hp, bI_t (h.mp hp)]
  · rw [bI_f hp, bI_f (fun q => hp (h.mpr q))]
theorem nar_bI {P : Prop} [Decidable P] : narrow .boolean (.int (iI (bI P))) = .int (iI (bI P)) := by
  rcases bI_01 P with h | h <;> rw [h] <;> rfl
theorem nar_b (b : Bool) : narrow .boolean (.int (iI (bI (b = true)))) = .int (iI (bI (b = true))) := nar_bI
def absI (x : Int) : Int := if 0 < x then x else -x
theorem absI_eq (x : Int) : absI x = (x.natAbs : Int) := by unfold absI; split <;> omega
section XR2
variable {p : Program} {l : Launch} {e : Env} {R : Room} {s : State} {m : MethodId} {args : Array Value} {below : List Frame} {meth : Method} {c : Code} {E : EV} {A : Nat → Prop} {nL cells slots : Nat} {Q : State → Prop} {cc : ByteArray} {own : String} {pc pc' : Nat} {lv : List (Nat × Value)} {st : List Value} {ws : va_W}
theorem x_join {α : Type} {pcJ : Nat} (I : α → Prop) (flv : α → List (Nat × Value)) (fst : α → List Value) (fws : α → va_W) (kJ : ∀ a, I a → Wx p l e R s m args below meth c E A nL cells slots Q pcJ (flv a) (fst a) (fws a)) (k0 : (∀ a, I a → Wx p l e R s m args below meth c E A nL cells slots Q pcJ (flv a) (fst a) (fws a)) → Wx p l e R s m args below meth c E A nL cells slots Q pc (lv) (st) (ws)) : Wx p l e R s m args below meth c E A nL cells slots Q pc (lv) (st) (ws) := k0 kJ
theorem x_lvI {lv' : List (Nat × Value)} {n : Nat} {x y : Int} (q : Nat) (hq : lv[q]? = some (n, .int (iI x))) (hxy : x = y) (hl : lv.set q (n, .int (iI y)) = lv') (kk : Wx p l e R s m args below meth c E A nL cells slots Q pc (lv') (st) (ws)) : Wx p l e R s m args below meth c E A nL cells slots Q pc (lv) (st) (ws) := by
  subst hxy
  obtain ⟨h, e⟩ := List.getElem?_eq_some_iff.mp hq
  rw [← e, List.set_getElem_self] at hl
  subst hl
  exact kk
theorem x_lvL {lv' : List (Nat × Value)} {n : Nat} {x y : Int} (q : Nat) (hq : lv[q]? = some (n, .long (lI x))) (hxy : x = y) (hl : lv.set q (n, .long (lI y)) = lv') (kk : Wx p l e R s m args below meth c E A nL cells slots Q pc (lv') (st) (ws)) : Wx p l e R s m args below meth c E A nL cells slots Q pc (lv) (st) (ws) := by
  subst hxy
  obtain ⟨h, e⟩ := List.getElem?_eq_some_iff.mp hq
  rw [← e, List.set_getElem_self] at hl
  subst hl
  exact kk
theorem x_stI {st' : List Value} {x y : Int} (q : Nat) (hq : st[q]? = some (.int (iI x))) (hxy : x = y) (hl : st.set q (.int (iI y)) = st') (kk : Wx p l e R s m args below meth c E A nL cells slots Q pc (lv) (st') (ws)) : Wx p l e R s m args below meth c E A nL cells slots Q pc (lv) (st) (ws) := by
  subst hxy
  obtain ⟨h, e⟩ := List.getElem?_eq_some_iff.mp hq
  rw [← e, List.set_getElem_self] at hl
  subst hl
  exact kk
theorem x_stL {st' : List Value} {x y : Int} (q : Nat) (hq : st[q]? = some (.long (lI x))) (hxy : x = y) (hl : st.set q (.long (lI y)) = st') (kk : Wx p l e R s m args below meth c E A nL cells slots Q pc (lv) (st') (ws)) : Wx p l e R s m args below meth c E A nL cells slots Q pc (lv) (st) (ws) := by
  subst hxy
  obtain ⟨h, e⟩ := List.getElem?_eq_some_iff.mp hq
  rw [← e, List.set_getElem_self] at hl
  subst hl
  exact kk
theorem x_st {st' : List Value} (h : st = st') (kk : Wx p l e R s m args below meth c E A nL cells slots Q pc (lv) (st') (ws)) : Wx p l e R s m args below meth c E A nL cells slots Q pc (lv) (st) (ws) := h ▸ kk
theorem x_ldcw (C : Cx p s m args meth c E A nL cc own) {index : Nat} {v : Int32} {z : Int} (hd : decode cc pc = .ok (.ldc_w index, 3)) (hp : pc + 3 = pc') (hw : Cond.constant own index v ∈ gt) (hz : v = iI z) (k : Wx p l e R s m args below meth c E A nL cells slots Q pc' (lv) (.int (iI z) :: st) (ws)) : Wx p l e R s m args below meth c E A nL cells slots Q pc (lv) (st) (ws) := by
  subst hp; intro H locs ls hP hD hS hl
  have kk := k H locs ls hP hD hS hl
  subst hz; exact lv_ldcw C.1 C.2.1 C.2.2.2.1 (C.2.2.2.2.1 _ hw) hd kk
theorem jm_mmax : Cond.code Lib.Math.max.name Lib.Math.max.code 2 (some .int) ∈ gt := gt_of (i := 515) (by decide +kernel) rfl
theorem x_mmax (C : Cx p s m args meth c E A nL cc own) {index : Nat} {x y : Int} (hd : decode cc pc = .ok (.invokestatic index, 3)) (hp : pc + 3 = pc') (hw : CWS own index yJ9_max_7cf53) (hm : MM yJ9_max_7cf53 cJ9_max_7cf53 2 (some .int) 2) (hf : 1 ≤ R.frames) (hlo : (st.map fun v => v.category).sum + 13 ≤ R.locals) (hcs : cells ≤ R.cells ∧ slots ≤ R.slots) (hx : -2147483648 ≤ x ∧ x < 2147483648) (hy : -2147483648 ≤ y ∧ y < 2147483648) (kk : Wx p l e R s m args below meth c E A nL cells slots Q pc' (lv) (.int (iI (max x y)) :: st) (ws)) : Wx p l e R s m args below meth c E A nL cells slots Q pc (lv) (.int (iI y) :: .int (iI x) :: st) (ws) := by
  subst hp; intro H locs ls hP hD hS hl
  obtain ⟨hx0, hb, hml, hown, hts, hK, hA, hlk⟩ := C
  have k2 := kk H locs ls hP hD hS hl
  refine va_mmax hx0 hb (hml.trans hl.1.symm) hown (hts (.methodLink own index yJ9_max_7cf53) (hw _ (by simp))) (hts (.static yJ9_max_7cf53) (hw _ (by simp))) (hts (.initialized yJ9_max_7cf53.cls) (hw _ (by simp))) (hts _ jm_mmax) hf hlo hcs.1 hcs.2 hd ?_
  have e : (if iI x < iI y then iI y else iI x) = iI (max x y) := by
    by_cases h : x < y
    · rw [if_pos ((iI_lt hx hy).mpr h), Int.max_eq_right (by omega)]
    · rw [if_neg (fun g => h ((iI_lt hx hy).mp g)), Int.max_eq_left (by omega)]
  rw [e]; exact k2
theorem jm_mmin : Cond.code Lib.Math.min.name Lib.Math.min.code 2 (some .int) ∈ gt := gt_of (i := 512) (by decide +kernel) rfl
theorem x_mmin (C : Cx p s m args meth c E A nL cc own) {index : Nat} {x y : Int} (hd : decode cc pc = .ok (.invokestatic index, 3)) (hp : pc + 3 = pc') (hw : CWS own index yJ9_min_7cf53) (hm : MM yJ9_min_7cf53 cJ9_min_7cf53 2 (some .int) 2) (hf : 1 ≤ R.frames) (hlo : (st.map fun v => v.category).sum + 13 ≤ R.locals) (hcs : cells ≤ R.cells ∧ slots ≤ R.slots) (hx : -2147483648 ≤ x ∧ x < 2147483648) (hy : -2147483648 ≤ y ∧ y < 2147483648) (kk : Wx p l e R s m args below meth c E A nL cells slots Q pc' (lv) (.int (iI (min x y)) :: st) (ws)) : Wx p l e R s m args below meth c E A nL cells slots Q pc (lv) (.int (iI y) :: .int (iI x) :: st) (ws) := by
  subst hp; intro H locs ls hP hD hS hl
  obtain ⟨hx0, hb, hml, hown, hts, hK, hA, hlk⟩ := C
  have k2 := kk H locs ls hP hD hS hl
  refine va_mmin hx0 hb (hml.trans hl.1.symm) hown (hts (.methodLink own index yJ9_min_7cf53) (hw _ (by simp))) (hts (.static yJ9_min_7cf53) (hw _ (by simp))) (hts (.initialized yJ9_min_7cf53.cls) (hw _ (by simp))) (hts _ jm_mmin) hf hlo hcs.1 hcs.2 hd ?_
  have e : (if iI y < iI x then iI y else iI x) = iI (min x y) := by
    by_cases h : y < x
    · rw [if_pos ((iI_lt hy hx).mpr h), Int.min_eq_right (by omega)]
    · rw [if_neg (fun g => h ((iI_lt hy hx).mp g)), Int.min_eq_left (by omega)]
  rw [e]; exact k2
theorem jm_mmaxl : Cond.code Lib.MathLoose.max_long.x Lib.MathLoose.max_long.code 4 (some .long) ∈ gt := gt_of (i := 625) (by decide +kernel) rfl
theorem x_mmaxl (C : Cx p s m args meth c E A nL cc own) {index : Nat} {x y : Int} (hd : decode cc pc = .ok (.invokestatic index, 3)) (hp : pc + 3 = pc') (hw : CWS own index yJ9_max_f86c9) (hm : MM yJ9_max_f86c9 cJ9_max_f86c9 4 (some .long) 2) (hf : 1 ≤ R.frames) (hlo : (st.map fun v => v.category).sum + 15 ≤ R.locals) (hcs : cells ≤ R.cells ∧ slots ≤ R.slots) (hx : -9223372036854775808 ≤ x ∧ x < 9223372036854775808) (hy : -9223372036854775808 ≤ y ∧ y < 9223372036854775808) (kk : Wx p l e R s m args below meth c E A nL cells slots Q pc' (lv) (.long (lI (max x y)) :: st) (ws)) : Wx p l e R s m args below meth c E A nL cells slots Q pc (lv) (.long (lI y) :: .long (lI x) :: st) (ws) := by
  subst hp; intro H locs ls hP hD hS hl
  obtain ⟨hx0, hb, hml, hown, hts, hK, hA, hlk⟩ := C
  have k2 := kk H locs ls hP hD hS hl
  refine va_mmax_long hx0 hb (hml.trans hl.1.symm) hown (hts (.methodLink own index yJ9_max_f86c9) (hw _ (by simp))) (hts (.static yJ9_max_f86c9) (hw _ (by simp))) (hts (.initialized yJ9_max_f86c9.cls) (hw _ (by simp))) (hts _ jm_mmaxl) hf hlo hcs.1 hcs.2 hd ?_
  have e : (if lI y < lI x then lI x else lI y) = lI (max x y) := by
    by_cases h : y < x
    · rw [if_pos ((lI_lt hy hx).mpr h), Int.max_eq_left (by omega)]
    · rw [if_neg (fun g => h ((lI_lt hy hx).mp g)), Int.max_eq_right (by omega)]
  rw [e]; exact k2
theorem jm_mabsl : Cond.code Lib.MathLoose.abs_long.x Lib.MathLoose.abs_long.code 2 (some .long) ∈ gt := gt_of (i := 548) (by decide +kernel) rfl
theorem x_mabsl (C : Cx p s m args meth c E A nL cc own) {index : Nat} {x : Int} (hd : decode cc pc = .ok (.invokestatic index, 3)) (hp : pc + 3 = pc') (hw : CWS own index yJ9_abs_067f4) (hm : MM yJ9_abs_067f4 cJ9_abs_067f4 2 (some .long) 1) (hf : 1 ≤ R.frames) (hlo : (st.map fun v => v.category).sum + 13 ≤ R.locals) (hcs : cells ≤ R.cells ∧ slots ≤ R.slots) (hx : -9223372036854775808 ≤ x ∧ x < 9223372036854775808) (kk : Wx p l e R s m args below meth c E A nL cells slots Q pc' (lv) (.long (lI (absI x)) :: st) (ws)) : Wx p l e R s m args below meth c E A nL cells slots Q pc (lv) (.long (lI x) :: st) (ws) := by
  subst hp; intro H locs ls hP hD hS hl
  obtain ⟨hx0, hb, hml, hown, hts, hK, hA, hlk⟩ := C
  have k2 := kk H locs ls hP hD hS hl
  refine va_mabs_long hx0 hb (hml.trans hl.1.symm) hown (hts (.methodLink own index yJ9_abs_067f4) (hw _ (by simp))) (hts (.static yJ9_abs_067f4) (hw _ (by simp))) (hts (.initialized yJ9_abs_067f4.cls) (hw _ (by simp))) (hts _ jm_mabsl) hf hlo hcs.1 hcs.2 hd ?_
  have e : (if 0 < lI x then lI x else -lI x) = lI (absI x) := by
    unfold absI
    by_cases h : 0 < x
    · rw [if_pos ((show (0 : Int64) < lI x ↔ 0 < x from lI_lt (x := 0) (by omega) hx).mpr h), if_pos h]
    · rw [if_neg (fun g => h ((show (0 : Int64) < lI x ↔ 0 < x from lI_lt (x := 0) (by omega) hx).mp g)), if_neg h, lI_neg]
  rw [e]; exact k2
end XR2
