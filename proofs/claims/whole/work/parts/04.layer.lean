/-! numbers: a word of 32 or 64 bits that holds a whole number -/
def iI (z : Int) : Int32 := Int32.ofInt z
def lI (z : Int) : Int64 := Int64.ofInt z
theorem iI_toInt {z : Int} (h : -2147483648 ≤ z ∧ z < 2147483648) : (iI z).toInt = z := Int32.toInt_ofInt_of_le (by omega) (by omega)
theorem lI_toInt {z : Int} (h : -9223372036854775808 ≤ z ∧ z < 9223372036854775808) : (lI z).toInt = z := Int64.toInt_ofInt_of_le (by omega) (by omega)
theorem iI_of (x : Int32) : iI x.toInt = x := Int32.ofInt_toInt x
theorem lI_of (x : Int64) : lI x.toInt = x := Int64.ofInt_toInt x
theorem iI_rng (x : Int32) : -2147483648 ≤ x.toInt ∧ x.toInt < 2147483648 := by
  have h1 := x.le_toInt
  have h2 := x.toInt_lt
  omega
theorem iI_add (x y : Int) : iI x + iI y = iI (x + y) := (Int32.ofInt_add x y).symm
theorem iI_sub (x y : Int) : iI x - iI y = iI (x - y) := (Int32.ofInt_sub x y).symm
theorem iI_mul (x y : Int) : iI x * iI y = iI (x * y) := (Int32.ofInt_mul x y).symm
theorem lI_add (x y : Int) : lI x + lI y = lI (x + y) := (Int64.ofInt_add x y).symm
theorem lI_sub (x y : Int) : lI x - lI y = lI (x - y) := (Int64.ofInt_sub x y).symm
theorem lI_mul (x y : Int) : lI x * lI y = lI (x * y) := (Int64.ofInt_mul x y).symm
theorem lI_neg (x : Int) : -lI x = lI (-x) := (Int64.ofInt_neg x).symm
theorem iI_lt {x y : Int} (hx : -2147483648 ≤ x ∧ x < 2147483648) (hy : -2147483648 ≤ y ∧ y < 2147483648) : iI x < iI y ↔ x < y := by
  rw [Int32.lt_iff_toInt_lt, iI_toInt hx, iI_toInt hy]
theorem iI_le {x y : Int} (hx : -2147483648 ≤ x ∧ x < 2147483648) (hy : -2147483648 ≤ y ∧ y < 2147483648) : iI x ≤ iI y ↔ x ≤ y := by
  rw [Int32.le_iff_toInt_le, iI_toInt hx, iI_toInt hy]
theorem iI_eq {x y : Int} (hx : -2147483648 ≤ x ∧ x < 2147483648) (hy : -2147483648 ≤ y ∧ y < 2147483648) : iI x = iI y ↔ x = y := by
  rw [← Int32.toInt_inj, iI_toInt hx, iI_toInt hy]
theorem lI_lt {x y : Int} (hx : -9223372036854775808 ≤ x ∧ x < 9223372036854775808) (hy : -9223372036854775808 ≤ y ∧ y < 9223372036854775808) : lI x < lI y ↔ x < y := by
  rw [Int64.lt_iff_toInt_lt, lI_toInt hx, lI_toInt hy]
theorem lI_eq {x y : Int} (hx : -9223372036854775808 ≤ x ∧ x < 9223372036854775808) (hy : -9223372036854775808 ≤ y ∧ y < 9223372036854775808) : lI x = lI y ↔ x = y := by
  rw [← Int64.toInt_inj, lI_toInt hx, lI_toInt hy]
theorem iI_l {x : Int} (hx : -2147483648 ≤ x ∧ x < 2147483648) : (iI x).toInt64 = lI x := by
  rw [← Int64.ofInt_int32ToInt, iI_toInt hx]; rfl
theorem iI_clamp {j : Nat} (h : j < 2147483648) : (iI (j : Int)).toNatClampNeg = j := by
  show (iI (j : Int)).toInt.toNat = j
  rw [iI_toInt (by omega)]; simp
theorem iI_in {j n : Nat} (h : j < n) (hn : n < 2147483648) : vp_in (iI (j : Int)) n := by
  rw [vp_in_iff, iI_toInt (by omega)]; omega
theorem iI_ofNat (n : Nat) : Int32.ofNat n = iI (n : Int) := by
  rw [← Int32.ofInt_eq_ofNat]; rfl
theorem iI_upd (f : Nat → Int) (k : Nat) (z : Int) : upd (fun j => iI (f j)) k (iI z) = fun j => iI (va_up f k z j) := by
  funext j
  by_cases h : j = k <;> simp [upd, va_up, h]
theorem lI_upd (f : Nat → Int) (k : Nat) (z : Int) : vp_updL (fun j => lI (f j)) k (lI z) = fun j => lI (va_up f k z j) := by
  funext j
  by_cases h : j = k <;> simp [vp_updL, va_up, h]
/-! words that stay through every call; words of the nest -/
def gt : List Cond := lw_tbl.filter goodWord
def isNestW : Cond → Bool
  | .fieldLinkNest .. => true
  | .methodLinkNest .. => true
  | .declares _ => true
  | .castable .. => true
  | _ => false
def ntw : List Cond := lw_tbl.filter isNestW
def NN (U : State) : Prop := (∀ w ∈ ntw, va_Nw w U) ∧ va_AO "PriceRise$Kind" U
theorem gt_good {w : Cond} (h : w ∈ gt) : (w.onTables && w.keeps) = true ∨ ∃ ty, w = .arrayClass ty := good_of_word (List.mem_filter.mp h).2
theorem gt_of {i : Nat} {w : Cond} (h : tables_1[i]? = some w) (hg : goodWord w = true) : w ∈ gt := List.mem_filter.mpr ⟨List.mem_append_right _ (List.mem_of_getElem? h), hg⟩
theorem gt_ofs {i : Nat} {w : Cond} (h : (k2_sels lw_privs)[i]? = some w) (hg : goodWord w = true) : w ∈ gt := List.mem_filter.mpr ⟨List.mem_append_left _ (List.mem_of_getElem? h), hg⟩
theorem ntw_of {i : Nat} {w : Cond} (h : tables_1[i]? = some w) (hg : isNestW w = true) : w ∈ ntw := List.mem_filter.mpr ⟨List.mem_append_right _ (List.mem_of_getElem? h), hg⟩
theorem NN.moved {s U : State} (hW : s.WarmedH U.vm) (h : NN s) : NN U := by
  refine ⟨fun w hw => ?_, va_AO.moved hW.alike h.2⟩
  have h1 := h.1 w hw
  have h2 := (List.mem_filter.mp hw).2
  cases w with
  | fieldLinkNest => exact va_Nw.warmF hW h1
  | methodLinkNest => exact va_Nw.warmM hW h1
  | declares => exact va_Nw.warmD hW h1
  | castable => exact va_Nw.warmC hW h1
  | _ => cases h2
theorem NN.same {s U : State} (hv : s.vm = U.vm) (h : NN s) : NN U := by
  refine ⟨fun w hw => va_Nw.same ?_ hv (h.1 w hw), va_AO.moved (hv ▸ Vm.Alike.refl s.vm) h.2⟩
  have h2 := (List.mem_filter.mp hw).2
  cases w <;> first | rfl | cases h2
theorem NN.use {U : State} {args : Array Value} (h : NN U) {w : Cond} (hw : w ∈ ntw) : w.before args U = true := by
  refine va_Nw.use ?_ (h.1 w hw)
  have h2 := (List.mem_filter.mp hw).2
  cases w <;> first | rfl | cases h2
/-! the world's constants -/
abbrev EV : Type := va_G × ClassId × ClassId × ClassId
def TYS (E : EV) : List (ClassId × FieldType) := [(E.2.1, .int), (E.2.2.1, .long), (E.2.2.2, .object "PriceRise$Kind")]
def KK (E : EV) (U : State) : Prop := va_K E.1 vwCl (TYS E) U ∧ NN U
abbrev ia (E : EV) (n : Nat) (f : Nat → Int) : va_E := .inl (E.2.1, n, .inl (fun j => iI (f j)))
abbrev la (E : EV) (n : Nat) (f : Nat → Int) : va_E := .inl (E.2.2.1, n, .inr (.inl (fun j => lI (f j))))
abbrev ka (E : EV) (n : Nat) (f : Nat → Option Nat) : va_E := .inl (E.2.2.2, n, .inr (.inr (.inr (.inr f))))
abbrev ob (k : Nat) (fs : List Value) : va_E := .inr (k, fs)
theorem KK.moved {E : EV} {s U : State} (hW : s.WarmedH U.vm) (h : KK E s) : KK E U := ⟨va_K.moved hW.alike h.1, h.2.moved hW⟩
/-! the judgement -/
def Wx (p : Program) (l : Launch) (e : Env) (R : Room) (s : State) (m : MethodId) (args : Array Value) (below : List Frame) (meth : Method) (c : Code) (E : EV) (A : Nat → Prop) (nL cells slots : Nat) (Q : State → Prop) (pc : Nat) (lv : List (Nat × Value)) (st : List Value) (ws : va_W) : Prop :=
  ∀ (H : Heap) (locs : List Loc) (ls : Array Slot), va_P E.1 vwCl ws H → va_D A ws → va_S A s.heap H locs → lv_has ls nL lv → W p l e R s m args below meth c H locs cells slots Q (F0 m pc ls st)
def Cx (p : Program) (s : State) (m : MethodId) (args : Array Value) (meth : Method) (c : Code) (E : EV) (A : Nat → Prop) (nL : Nat) (cc : ByteArray) (own : String) : Prop :=
  p.tables.exec = Jvm.exec ∧ c.code = cc ∧ c.maxLocals = nL ∧ s.vm.findClass own = some m.cls ∧ (∀ w ∈ gt, w.before args s = true) ∧ KK E s ∧ (∀ q : Nat, s.heap.size ≤ q → A q) ∧ meth.locks = false
def QX (E : EV) (post : Option Value → va_W → Prop) (A : Nat → Prop) : Array Value → State → Outcome → State → Prop := fun _ st oc t =>
  (∃ (v : Option Value) (w : va_W), oc = .returned v ∧ post v w ∧ va_P E.1 vwCl w t.heap ∧ va_D A w) ∧ va_F A st t
def PX (E : EV) (av : List Value) (ws : va_W) (sz : Nat) : Array Value → State → Prop := va_Pc av (fun U => U.heap.size = sz ∧ va_P E.1 vwCl ws U.heap ∧ KK E U ∧ va_D (fun _ => True) ws)
/-- a method's contract: from the world ws and the arguments av it comes back with 'post answer world' -/
def MC (l : Launch) (E : EV) (y : MethodName) (cc : ByteArray) (maxL : Nat) (ret : Option FieldType) (rm : Room) (av : List Value) (ws : va_W) (post : Option Value → va_W → Prop) : Prop :=
  ∀ sz : Nat, Met l y (.code y cc maxL ret :: gt) rm (PX E av ws sz) (QX E post (va_A ws sz)) rm.cells rm.slots (va_A ws sz)
theorem PX.blind {E : EV} {av : List Value} {ws : va_W} {sz : Nat} : FrameBlind (PX E av ws sz) := by
  intro a U g mk q
  obtain ⟨q0, q1, qP, qK, qD⟩ := q
  exact ⟨q0, q1, qP, ⟨va_K.moved (u := U) (U := U.calling g mk a) (Vm.Alike.refl U.vm) qK.1, NN.same (s := U) (U := U.calling g mk a) (show U.vm = (U.calling g mk a).vm from rfl) qK.2⟩, qD⟩
theorem MC.of {l : Launch} {E : EV} {y : MethodName} {cc : ByteArray} {maxL : Nat} {ret : Option FieldType} {rm : Room} {av : List Value} {ws : va_W} {post : Option Value → va_W → Prop} (hy : plainName y.cls = true) (hlen : (lg_sl av).length ≤ maxL)
    (body : ∀ (p : Program) (e : Env) (s : State) (m : MethodId) (args : Array Value) (below : List Frame) (meth : Method) (c : Code) (A : Nat → Prop), Cx p s m args meth c E A maxL cc y.cls → meth.sig.returnType = ret → meth.name = y.name → Wx p l e rm s m args below meth c E A maxL 0 0 (MQ below (QX E post A) args s rm.cells rm.slots A) 0 (lv_args 0 av) [] ws) : MC l E y cc maxL ret rm av ws post := by
  intro sz
  refine Met.ofW (cc := cc) (maxL := maxL) (ret := ret) hy rfl ?_
  intro p e s m args below meth c s₁ B hml hv
  obtain ⟨rfl, hsz, hP, hK, hD0⟩ := hv
  have hts := atoms_spec (ws := .code y cc maxL ret :: gt) B.pre
  have hown : s.vm.findClass y.cls = some m.cls := findClass_of_methodNamed B.named
  subst hsz
  have hD := hD0.self (sz := s.heap.size)
  have hl := lv_entry av (n := maxL) hlen
  rw [lg_entry_eq]
  exact body p e s m av.toArray below meth c (va_A ws s.heap.size) ⟨B.exec, B.bytes, hml, hown, fun w hw => hts w (List.mem_cons_of_mem _ hw), hK, fun q h => Or.inr h, B.notSynchronized⟩ B.returns (name_of_methodNamed B.named B.method).1 s.heap [] _ hP hD va_S.rf hl
/-! fields: the word that a getfield of the class 'own' at the constant 'index' needs, where the object is of the class number ci and the field its slot k -/
def FF (own : String) (index ci k : Nat) : Prop := ∃ (C : String) (T : u_T) (N : Nat) (ref : String), vwCl[ci]? = some (C, T, N) ∧ k < N ∧ (∀ w ∈ u_ws C T N, w ∈ gt) ∧
  (Cond.fieldLink own index ref (T k).2.1 (T k).2.2.1 ∈ gt ∨ ∃ host, Cond.fieldLinkNest own index ref (T k).2.1 (T k).2.2.1 host ∈ ntw) ∧ ((T k).1 = ref ∨ Cond.sameField ref (T k).1 (T k).2.1 (T k).2.2.1 ∈ gt)
def PF (own : String) (index ci k : Nat) (ty : FieldType) (fin : Bool) : Prop := ∃ (C : String) (T : u_T) (N : Nat) (ref : String) (ty0 : Nat → FieldType), vwCl[ci]? = some (C, T, N) ∧ k < N ∧ (∀ w ∈ u_ws C T N, w ∈ gt) ∧ (∀ k, k < N → parseFieldDescriptor (T k).2.2.1 = some (ty0 k)) ∧ (∀ a, a < N → ∀ b, b < N → a ≠ b → (T a).2.1 ≠ (T b).2.1) ∧
  (Cond.fieldLink own index ref (T k).2.1 (T k).2.2.1 ∈ gt ∨ (fin = false ∧ ∃ host, Cond.fieldLinkNest own index ref (T k).2.1 (T k).2.2.1 host ∈ ntw)) ∧ ((T k).1 = ref ∨ Cond.sameField ref (T k).1 (T k).2.1 (T k).2.2.1 ∈ gt) ∧ (T k).2.2.2 = fin ∧ (fin = true → (T k).1 = own) ∧ parseFieldDescriptor (T k).2.2.1 = some ty
theorem same_of {args : Array Value} {s : State} (hts : ∀ w ∈ gt, w.before args s = true) {a b n d : String} (h : a = b ∨ Cond.sameField b a n d ∈ gt) : ∀ x, s.fieldFound? a n d = some x → s.fieldFound? b n d = some x := by
  intro x hx
  rcases h with rfl | h
  · exact hx
  · exact u_same (hts _ h) x hx
/-! methods: what a call of y needs of the tables, whoever calls -/
def MM (y : MethodName) (cc : ByteArray) (maxL : Nat) (ret : Option FieldType) (n : Nat) : Prop := Cond.code y cc maxL ret ∈ gt ∧ y.cls ≠ "java/lang/invoke/MethodHandle" ∧ y.cls ≠ "java/lang/invoke/VarHandle" ∧ (parseMethodDescriptor y.desc).map (fun d => d.parameters.length) = some n
theorem good_app {a b : List Cond} (ha : ∀ w ∈ a, w ∈ gt) (hb : ∀ w ∈ b, w ∈ gt) : GoodIn gt (a ++ b) := fun w h => (List.mem_append.mp h).elim (fun h => ⟨ha w h, gt_good (ha w h)⟩) (fun h => ⟨hb w h, gt_good (hb w h)⟩)
theorem good_cons {c : Cond} (hc : c ∈ gt) : ∀ w ∈ c :: gt, w ∈ gt := fun w h => (List.mem_cons.mp h).elim (fun e => e ▸ hc) id
def CWV (own : String) (index : Nat) (C : String) (y : MethodName) : Prop := (∀ w ∈ ([.methodLink own index y, .instanceMethod y, .selects C y y, .initialized C] : List Cond), w ∈ gt) ∧ y.cls = C
def CWS (own : String) (index : Nat) (y : MethodName) : Prop := (∀ w ∈ ([.methodLink own index y, .static y, .initialized y.cls] : List Cond), w ∈ gt)
def CWN (own : String) (index : Nat) (y : MethodName) : Prop := (∃ host, Cond.methodLinkNest own index y host ∈ ntw) ∧ (∀ w ∈ ([.static y, .initialized y.cls] : List Cond), w ∈ gt)
def CWI (own : String) (index : Nat) (y : MethodName) : Prop := (Cond.methodLink own index y ∈ gt ∨ ∃ host, Cond.methodLinkNest own index y host ∈ ntw) ∧ (∀ w ∈ ([.instanceMethod y, .initialized y.cls] : List Cond), w ∈ gt) ∧ y.name = "<init>"
/-- a call whose named method is x of the class x.cls, found in 'owner', and whose run method for the class C is y -/
def CWU (own : String) (index : Nat) (C owner : String) (x y : MethodName) (n : Nat) : Prop := (∀ w ∈ ([.methodLink own index x, .sameMethod x.cls owner x.name x.desc, .selects C x y, .instanceMethod y, .initialized y.cls] : List Cond), w ∈ gt) ∧
  (y = ⟨owner, x.name, x.desc⟩ ∨ (∃ b0 m0 r0, Cond.code ⟨owner, x.name, x.desc⟩ b0 m0 r0 ∈ gt ∧ Cond.instanceMethod ⟨owner, x.name, x.desc⟩ ∈ gt) ∨ Cond.declares ⟨owner, x.name, x.desc⟩ ∈ ntw) ∧ owner ≠ "java/lang/invoke/MethodHandle" ∧ owner ≠ "java/lang/invoke/VarHandle" ∧ (parseMethodDescriptor x.desc).map (fun d => d.parameters.length) = some n
section XR
variable {p : Program} {l : Launch} {e : Env} {R : Room} {s : State} {m : MethodId} {args : Array Value} {below : List Frame} {meth : Method} {c : Code} {E : EV} {A : Nat → Prop} {nL cells slots : Nat} {Q : State → Prop} {cc : ByteArray} {own : String} {pc pc' : Nat} {lv : List (Nat × Value)} {st : List Value} {ws : va_W}
theorem x_iconst (C : Cx p s m args meth c E A nL cc own) {n : Int} (hd : decode cc pc = .ok (.iconst n, 1)) (hp : pc + 1 = pc')  (k : Wx p l e R s m args below meth c E A nL cells slots Q pc' (lv) (.int (iI n) :: st) (ws)) : Wx p l e R s m args below meth c E A nL cells slots Q pc (lv) (st) (ws) := by
  subst hp; intro H locs ls hP hD hS hl
  have kk := k H locs ls hP hD hS hl
  exact lv_iconst C.1 C.2.1 hd rfl kk
theorem x_bipush (C : Cx p s m args meth c E A nL cc own) {n : Int} (hd : decode cc pc = .ok (.bipush n, 2)) (hp : pc + 2 = pc') (hn : (Int8.ofInt n).toInt32 = iI n) (k : Wx p l e R s m args below meth c E A nL cells slots Q pc' (lv) (.int (iI n) :: st) (ws)) : Wx p l e R s m args below meth c E A nL cells slots Q pc (lv) (st) (ws) := by
  subst hp; intro H locs ls hP hD hS hl
  have kk := k H locs ls hP hD hS hl
  exact lv_bipush C.1 C.2.1 hd hn kk
theorem x_sipush (C : Cx p s m args meth c E A nL cc own) {n : Int} (hd : decode cc pc = .ok (.sipush n, 3)) (hp : pc + 3 = pc') (hn : (Int16.ofInt n).toInt32 = iI n) (k : Wx p l e R s m args below meth c E A nL cells slots Q pc' (lv) (.int (iI n) :: st) (ws)) : Wx p l e R s m args below meth c E A nL cells slots Q pc (lv) (st) (ws) := by
  subst hp; intro H locs ls hP hD hS hl
  have kk := k H locs ls hP hD hS hl
  exact lv_sipush C.1 C.2.1 hd hn kk
theorem x_lconst (C : Cx p s m args meth c E A nL cc own) {n : Fin 2} {z : Int} (hd : decode cc pc = .ok (.lconst n, 1)) (hp : pc + 1 = pc') (hn : Int64.ofNat (n : Nat) = lI z) (k : Wx p l e R s m args below meth c E A nL cells slots Q pc' (lv) (.long (lI z) :: st) (ws)) : Wx p l e R s m args below meth c E A nL cells slots Q pc (lv) (st) (ws) := by
  subst hp; intro H locs ls hP hD hS hl
  have kk := k H locs ls hP hD hS hl
  exact lv_lconst C.1 C.2.1 hd hn kk
theorem x_ldc (C : Cx p s m args meth c E A nL cc own) {index : Nat} {v : Int32} {z : Int} (hd : decode cc pc = .ok (.ldc index, 2)) (hp : pc + 2 = pc') (hw : Cond.constant own index v ∈ gt) (hz : v = iI z) (k : Wx p l e R s m args below meth c E A nL cells slots Q pc' (lv) (.int (iI z) :: st) (ws)) : Wx p l e R s m args below meth c E A nL cells slots Q pc (lv) (st) (ws) := by
  subst hp; intro H locs ls hP hD hS hl
  have kk := k H locs ls hP hD hS hl
  subst hz; exact lv_ldc C.1 C.2.1 C.2.2.2.1 (C.2.2.2.2.1 _ hw) hd kk
theorem x_ldc2 (C : Cx p s m args meth c E A nL cc own) {index : Nat} {v : Int64} {z : Int} (hd : decode cc pc = .ok (.ldc2_w index, 3)) (hp : pc + 3 = pc') (hw : Cond.constantLong own index v ∈ gt) (hz : v = lI z) (k : Wx p l e R s m args below meth c E A nL cells slots Q pc' (lv) (.long (lI z) :: st) (ws)) : Wx p l e R s m args below meth c E A nL cells slots Q pc (lv) (st) (ws) := by
  subst hp; intro H locs ls hP hD hS hl
  have kk := k H locs ls hP hD hS hl
  subst hz; exact lv_ldc2 C.1 C.2.1 C.2.2.2.1 (C.2.2.2.2.1 _ hw) hd kk
theorem x_iload_n (C : Cx p s m args meth c E A nL cc own) {n : Fin 4} {x : Int32} (q : Nat) (hd : decode cc pc = .ok (.iload_n n, 1)) (hp : pc + 1 = pc') (hq : lv[q]? = some ((n : Nat), .int x)) (k : Wx p l e R s m args below meth c E A nL cells slots Q pc' (lv) (.int x :: st) (ws)) : Wx p l e R s m args below meth c E A nL cells slots Q pc (lv) (st) (ws) := by
  subst hp; intro H locs ls hP hD hS hl
  have kk := k H locs ls hP hD hS hl
  exact lv_iload_n C.1 C.2.1 hd rfl (lv_at hl q hq) kk
theorem x_iload (C : Cx p s m args meth c E A nL cc own) {n : Nat} {x : Int32} (q : Nat) (hd : decode cc pc = .ok (.iload n, 2)) (hp : pc + 2 = pc') (hq : lv[q]? = some (n, .int x)) (k : Wx p l e R s m args below meth c E A nL cells slots Q pc' (lv) (.int x :: st) (ws)) : Wx p l e R s m args below meth c E A nL cells slots Q pc (lv) (st) (ws) := by
  subst hp; intro H locs ls hP hD hS hl
  have kk := k H locs ls hP hD hS hl
  exact lv_iload C.1 C.2.1 hd (lv_at hl q hq) kk
theorem x_lload_n (C : Cx p s m args meth c E A nL cc own) {n : Fin 4} {x : Int64} (q : Nat) (hd : decode cc pc = .ok (.lload_n n, 1)) (hp : pc + 1 = pc') (hq : lv[q]? = some ((n : Nat), .long x)) (k : Wx p l e R s m args below meth c E A nL cells slots Q pc' (lv) (.long x :: st) (ws)) : Wx p l e R s m args below meth c E A nL cells slots Q pc (lv) (st) (ws) := by
  subst hp; intro H locs ls hP hD hS hl
  have kk := k H locs ls hP hD hS hl
  exact lv_lload_n C.1 C.2.1 hd rfl (lv_at hl q hq) kk
theorem x_lload (C : Cx p s m args meth c E A nL cc own) {n : Nat} {x : Int64} (q : Nat) (hd : decode cc pc = .ok (.lload n, 2)) (hp : pc + 2 = pc') (hq : lv[q]? = some (n, .long x)) (k : Wx p l e R s m args below meth c E A nL cells slots Q pc' (lv) (.long x :: st) (ws)) : Wx p l e R s m args below meth c E A nL cells slots Q pc (lv) (st) (ws) := by
  subst hp; intro H locs ls hP hD hS hl
  have kk := k H locs ls hP hD hS hl
  exact lv_lload C.1 C.2.1 hd (lv_at hl q hq) kk
theorem x_aload_n (C : Cx p s m args meth c E A nL cc own) {n : Fin 4} {x : Nat} (q : Nat) (hd : decode cc pc = .ok (.aload_n n, 1)) (hp : pc + 1 = pc') (hq : lv[q]? = some ((n : Nat), .ref x)) (k : Wx p l e R s m args below meth c E A nL cells slots Q pc' (lv) (.ref x :: st) (ws)) : Wx p l e R s m args below meth c E A nL cells slots Q pc (lv) (st) (ws) := by
  subst hp; intro H locs ls hP hD hS hl
  have kk := k H locs ls hP hD hS hl
  exact lv_aload_n C.1 C.2.1 hd rfl (lv_at hl q hq) kk
theorem x_aload (C : Cx p s m args meth c E A nL cc own) {n : Nat} {x : Nat} (q : Nat) (hd : decode cc pc = .ok (.aload n, 2)) (hp : pc + 2 = pc') (hq : lv[q]? = some (n, .ref x)) (k : Wx p l e R s m args below meth c E A nL cells slots Q pc' (lv) (.ref x :: st) (ws)) : Wx p l e R s m args below meth c E A nL cells slots Q pc (lv) (st) (ws) := by
  subst hp; intro H locs ls hP hD hS hl
  have kk := k H locs ls hP hD hS hl
  exact lv_aload C.1 C.2.1 hd (lv_at hl q hq) kk
theorem x_istore_n (C : Cx p s m args meth c E A nL cc own) {x : Int32} {n : Fin 4} {lv' : List (Nat × Value)} (hd : decode cc pc = .ok (.istore_n n, 1)) (hp : pc + 1 = pc') (hn : (n : Nat) < nL) (hf : ((n : Nat), Value.int x) :: lv.filter (fun q => !(q.1 == (n : Nat)) && !(q.1 + 1 == (n : Nat) && q.2.category == 2)) = lv') (k : Wx p l e R s m args below meth c E A nL cells slots Q pc' (lv') (st) (ws)) : Wx p l e R s m args below meth c E A nL cells slots Q pc (lv) (Value.int x :: st) (ws) := by
  subst hp; intro H locs ls hP hD hS hl
  exact lv_istore_n C.1 C.2.1 hd rfl hl hn hf (fun ls' hl' => k H locs ls' hP hD hS hl')
theorem x_istore (C : Cx p s m args meth c E A nL cc own) {x : Int32} {n : Nat} {lv' : List (Nat × Value)} (hd : decode cc pc = .ok (.istore n, 2)) (hp : pc + 2 = pc') (hn : n < nL) (hf : (n, Value.int x) :: lv.filter (fun q => !(q.1 == n) && !(q.1 + 1 == n && q.2.category == 2)) = lv') (k : Wx p l e R s m args below meth c E A nL cells slots Q pc' (lv') (st) (ws)) : Wx p l e R s m args below meth c E A nL cells slots Q pc (lv) (Value.int x :: st) (ws) := by
  subst hp; intro H locs ls hP hD hS hl
  exact lv_istore C.1 C.2.1 hd hl hn hf (fun ls' hl' => k H locs ls' hP hD hS hl')
theorem x_lstore_n (C : Cx p s m args meth c E A nL cc own) {x : Int64} {n : Fin 4} {lv' : List (Nat × Value)} (hd : decode cc pc = .ok (.lstore_n n, 1)) (hp : pc + 1 = pc') (hn : (n : Nat) + 1 < nL) (hf : ((n : Nat), Value.long x) :: lv.filter (fun q => !(q.1 == (n : Nat)) && (!(q.1 == (n : Nat) + 1) && !(q.1 + 1 == (n : Nat) && q.2.category == 2))) = lv') (k : Wx p l e R s m args below meth c E A nL cells slots Q pc' (lv') (st) (ws)) : Wx p l e R s m args below meth c E A nL cells slots Q pc (lv) (Value.long x :: st) (ws) := by
  subst hp; intro H locs ls hP hD hS hl
  exact lv_lstore_n C.1 C.2.1 hd rfl hl hn hf (fun ls' hl' => k H locs ls' hP hD hS hl')
theorem x_lstore (C : Cx p s m args meth c E A nL cc own) {x : Int64} {n : Nat} {lv' : List (Nat × Value)} (hd : decode cc pc = .ok (.lstore n, 2)) (hp : pc + 2 = pc') (hn : n + 1 < nL) (hf : (n, Value.long x) :: lv.filter (fun q => !(q.1 == n) && (!(q.1 == n + 1) && !(q.1 + 1 == n && q.2.category == 2))) = lv') (k : Wx p l e R s m args below meth c E A nL cells slots Q pc' (lv') (st) (ws)) : Wx p l e R s m args below meth c E A nL cells slots Q pc (lv) (Value.long x :: st) (ws) := by
  subst hp; intro H locs ls hP hD hS hl
  exact lv_lstore C.1 C.2.1 hd hl hn hf (fun ls' hl' => k H locs ls' hP hD hS hl')
theorem x_astore_n (C : Cx p s m args meth c E A nL cc own) {x : Nat} {n : Fin 4} {lv' : List (Nat × Value)} (hd : decode cc pc = .ok (.astore_n n, 1)) (hp : pc + 1 = pc') (hn : (n : Nat) < nL) (hf : ((n : Nat), Value.ref x) :: lv.filter (fun q => !(q.1 == (n : Nat)) && !(q.1 + 1 == (n : Nat) && q.2.category == 2)) = lv') (k : Wx p l e R s m args below meth c E A nL cells slots Q pc' (lv') (st) (ws)) : Wx p l e R s m args below meth c E A nL cells slots Q pc (lv) (Value.ref x :: st) (ws) := by
  subst hp; intro H locs ls hP hD hS hl
  exact lv_astore_n C.1 C.2.1 hd rfl hl hn hf (fun ls' hl' => k H locs ls' hP hD hS hl')
theorem x_iinc (C : Cx p s m args meth c E A nL cc own) {n : Nat} {d x : Int} {lv' : List (Nat × Value)} (q : Nat) (hd : decode cc pc = .ok (.iinc n d, 3)) (hp : pc + 3 = pc') (hn : n < nL) (hq : lv[q]? = some (n, .int (iI x))) (hf : (n, Value.int (iI (x + d))) :: lv.filter (fun q => !(q.1 == n) && !(q.1 + 1 == n && q.2.category == 2)) = lv') (k : Wx p l e R s m args below meth c E A nL cells slots Q pc' (lv') (st) (ws)) : Wx p l e R s m args below meth c E A nL cells slots Q pc (lv) (st) (ws) := by
  subst hp; intro H locs ls hP hD hS hl
  exact lv_iinc C.1 C.2.1 hd hl hq (show iI x + Int32.ofInt d = iI (x + d) from iI_add x d) hn hf (fun ls' hl' => k H locs ls' hP hD hS hl')
theorem x_iadd (C : Cx p s m args meth c E A nL cc own) {x y : Int} (hd : decode cc pc = .ok (.iadd, 1)) (hp : pc + 1 = pc')  (k : Wx p l e R s m args below meth c E A nL cells slots Q pc' (lv) (.int (iI (x + y)) :: st) (ws)) : Wx p l e R s m args below meth c E A nL cells slots Q pc (lv) (.int (iI y) :: .int (iI x) :: st) (ws) := by
  subst hp; intro H locs ls hP hD hS hl
  have kk := k H locs ls hP hD hS hl
  exact lv_iadd C.1 C.2.1 hd (by rw [iI_add]; exact kk)
theorem x_ladd (C : Cx p s m args meth c E A nL cc own) {x y : Int} (hd : decode cc pc = .ok (.ladd, 1)) (hp : pc + 1 = pc')  (k : Wx p l e R s m args below meth c E A nL cells slots Q pc' (lv) (.long (lI (x + y)) :: st) (ws)) : Wx p l e R s m args below meth c E A nL cells slots Q pc (lv) (.long (lI y) :: .long (lI x) :: st) (ws) := by
  subst hp; intro H locs ls hP hD hS hl
  have kk := k H locs ls hP hD hS hl
  exact lv_ladd C.1 C.2.1 hd (by rw [lI_add]; exact kk)
theorem x_isub (C : Cx p s m args meth c E A nL cc own) {x y : Int} (hd : decode cc pc = .ok (.isub, 1)) (hp : pc + 1 = pc')  (k : Wx p l e R s m args below meth c E A nL cells slots Q pc' (lv) (.int (iI (x - y)) :: st) (ws)) : Wx p l e R s m args below meth c E A nL cells slots Q pc (lv) (.int (iI y) :: .int (iI x) :: st) (ws) := by
  subst hp; intro H locs ls hP hD hS hl
  have kk := k H locs ls hP hD hS hl
  exact lv_isub C.1 C.2.1 hd (by rw [iI_sub]; exact kk)
theorem x_lsub (C : Cx p s m args meth c E A nL cc own) {x y : Int} (hd : decode cc pc = .ok (.lsub, 1)) (hp : pc + 1 = pc')  (k : Wx p l e R s m args below meth c E A nL cells slots Q pc' (lv) (.long (lI (x - y)) :: st) (ws)) : Wx p l e R s m args below meth c E A nL cells slots Q pc (lv) (.long (lI y) :: .long (lI x) :: st) (ws) := by
  subst hp; intro H locs ls hP hD hS hl
  have kk := k H locs ls hP hD hS hl
  exact lv_lsub C.1 C.2.1 hd (by rw [lI_sub]; exact kk)
theorem x_imul (C : Cx p s m args meth c E A nL cc own) {x y : Int} (hd : decode cc pc = .ok (.imul, 1)) (hp : pc + 1 = pc')  (k : Wx p l e R s m args below meth c E A nL cells slots Q pc' (lv) (.int (iI (x * y)) :: st) (ws)) : Wx p l e R s m args below meth c E A nL cells slots Q pc (lv) (.int (iI y) :: .int (iI x) :: st) (ws) := by
  subst hp; intro H locs ls hP hD hS hl
  have kk := k H locs ls hP hD hS hl
  exact lv_imul C.1 C.2.1 hd (by rw [iI_mul]; exact kk)
theorem x_lmul (C : Cx p s m args meth c E A nL cc own) {x y : Int} (hd : decode cc pc = .ok (.lmul, 1)) (hp : pc + 1 = pc')  (k : Wx p l e R s m args below meth c E A nL cells slots Q pc' (lv) (.long (lI (x * y)) :: st) (ws)) : Wx p l e R s m args below meth c E A nL cells slots Q pc (lv) (.long (lI y) :: .long (lI x) :: st) (ws) := by
  subst hp; intro H locs ls hP hD hS hl
  have kk := k H locs ls hP hD hS hl
  exact lv_lmul C.1 C.2.1 hd (by rw [lI_mul]; exact kk)
theorem x_lneg (C : Cx p s m args meth c E A nL cc own) {x : Int} (hd : decode cc pc = .ok (.lneg, 1)) (hp : pc + 1 = pc')  (k : Wx p l e R s m args below meth c E A nL cells slots Q pc' (lv) (.long (lI (-x)) :: st) (ws)) : Wx p l e R s m args below meth c E A nL cells slots Q pc (lv) (.long (lI x) :: st) (ws) := by
  subst hp; intro H locs ls hP hD hS hl
  have kk := k H locs ls hP hD hS hl
  exact lv_lneg C.1 C.2.1 hd (by rw [lI_neg]; exact kk)
theorem x_i2l (C : Cx p s m args meth c E A nL cc own) {x : Int} (hd : decode cc pc = .ok (.i2l, 1)) (hp : pc + 1 = pc') (hx : -2147483648 ≤ x ∧ x < 2147483648) (k : Wx p l e R s m args below meth c E A nL cells slots Q pc' (lv) (.long (lI x) :: st) (ws)) : Wx p l e R s m args below meth c E A nL cells slots Q pc (lv) (.int (iI x) :: st) (ws) := by
  subst hp; intro H locs ls hP hD hS hl
  have kk := k H locs ls hP hD hS hl
  exact lv_i2l C.1 C.2.1 hd (iI_l hx) kk
theorem x_iand (C : Cx p s m args meth c E A nL cc own) {x y z : Int32} (hd : decode cc pc = .ok (.iand, 1)) (hp : pc + 1 = pc') (hz : x &&& y = z) (k : Wx p l e R s m args below meth c E A nL cells slots Q pc' (lv) (.int z :: st) (ws)) : Wx p l e R s m args below meth c E A nL cells slots Q pc (lv) (.int y :: .int x :: st) (ws) := by
  subst hp; intro H locs ls hP hD hS hl
  have kk := k H locs ls hP hD hS hl
  subst hz; exact lv_iand C.1 C.2.1 hd kk
theorem x_ior (C : Cx p s m args meth c E A nL cc own) {x y z : Int32} (hd : decode cc pc = .ok (.ior, 1)) (hp : pc + 1 = pc') (hz : x ||| y = z) (k : Wx p l e R s m args below meth c E A nL cells slots Q pc' (lv) (.int z :: st) (ws)) : Wx p l e R s m args below meth c E A nL cells slots Q pc (lv) (.int y :: .int x :: st) (ws) := by
  subst hp; intro H locs ls hP hD hS hl
  have kk := k H locs ls hP hD hS hl
  subst hz; exact lv_ior C.1 C.2.1 hd kk
theorem x_ixor (C : Cx p s m args meth c E A nL cc own) {x y z : Int32} (hd : decode cc pc = .ok (.ixor, 1)) (hp : pc + 1 = pc') (hz : x ^^^ y = z) (k : Wx p l e R s m args below meth c E A nL cells slots Q pc' (lv) (.int z :: st) (ws)) : Wx p l e R s m args below meth c E A nL cells slots Q pc (lv) (.int y :: .int x :: st) (ws) := by
  subst hp; intro H locs ls hP hD hS hl
  have kk := k H locs ls hP hD hS hl
  subst hz; exact lv_ixor C.1 C.2.1 hd kk
theorem x_ishl (C : Cx p s m args meth c E A nL cc own) {x y z : Int32} (hd : decode cc pc = .ok (.ishl, 1)) (hp : pc + 1 = pc') (hz : x <<< (y &&& 31) = z) (k : Wx p l e R s m args below meth c E A nL cells slots Q pc' (lv) (.int z :: st) (ws)) : Wx p l e R s m args below meth c E A nL cells slots Q pc (lv) (.int y :: .int x :: st) (ws) := by
  subst hp; intro H locs ls hP hD hS hl
  have kk := k H locs ls hP hD hS hl
  subst hz; exact lv_ishl C.1 C.2.1 hd kk
theorem x_ishr (C : Cx p s m args meth c E A nL cc own) {x y z : Int32} (hd : decode cc pc = .ok (.ishr, 1)) (hp : pc + 1 = pc') (hz : x >>> (y &&& 31) = z) (k : Wx p l e R s m args below meth c E A nL cells slots Q pc' (lv) (.int z :: st) (ws)) : Wx p l e R s m args below meth c E A nL cells slots Q pc (lv) (.int y :: .int x :: st) (ws) := by
  subst hp; intro H locs ls hP hD hS hl
  have kk := k H locs ls hP hD hS hl
  subst hz; exact lv_ishr C.1 C.2.1 hd kk
theorem x_iushr (C : Cx p s m args meth c E A nL cc own) {x y z : Int32} (hd : decode cc pc = .ok (.iushr, 1)) (hp : pc + 1 = pc') (hz : (x.toUInt32 >>> (y.toUInt32 &&& Int32.toUInt32 31)).toInt32 = z) (k : Wx p l e R s m args below meth c E A nL cells slots Q pc' (lv) (.int z :: st) (ws)) : Wx p l e R s m args below meth c E A nL cells slots Q pc (lv) (.int y :: .int x :: st) (ws) := by
  subst hp; intro H locs ls hP hD hS hl
  have kk := k H locs ls hP hD hS hl
  exact lv_iushr C.1 C.2.1 hd hz kk
theorem x_idiv (C : Cx p s m args meth c E A nL cc own) {x y z : Int32} (hd : decode cc pc = .ok (.idiv, 1)) (hp : pc + 1 = pc') (hy : ¬ y = 0) (hz : x / y = z) (k : Wx p l e R s m args below meth c E A nL cells slots Q pc' (lv) (.int z :: st) (ws)) : Wx p l e R s m args below meth c E A nL cells slots Q pc (lv) (.int y :: .int x :: st) (ws) := by
  subst hp; intro H locs ls hP hD hS hl
  have kk := k H locs ls hP hD hS hl
  subst hz; exact lv_idiv C.1 C.2.1 hd hy kk
theorem x_ldiv (C : Cx p s m args meth c E A nL cc own) {x y z : Int64} (hd : decode cc pc = .ok (.ldiv, 1)) (hp : pc + 1 = pc') (hy : ¬ y = 0) (hz : x / y = z) (k : Wx p l e R s m args below meth c E A nL cells slots Q pc' (lv) (.long z :: st) (ws)) : Wx p l e R s m args below meth c E A nL cells slots Q pc (lv) (.long y :: .long x :: st) (ws) := by
  subst hp; intro H locs ls hP hD hS hl
  have kk := k H locs ls hP hD hS hl
  subst hz; exact lv_ldiv C.1 C.2.1 hd hy kk
theorem x_lrem (C : Cx p s m args meth c E A nL cc own) {x y z : Int64} (hd : decode cc pc = .ok (.lrem, 1)) (hp : pc + 1 = pc') (hy : ¬ y = 0) (hz : x - x / y * y = z) (k : Wx p l e R s m args below meth c E A nL cells slots Q pc' (lv) (.long z :: st) (ws)) : Wx p l e R s m args below meth c E A nL cells slots Q pc (lv) (.long y :: .long x :: st) (ws) := by
  subst hp; intro H locs ls hP hD hS hl
  have kk := k H locs ls hP hD hS hl
  subst hz; exact lv_lrem C.1 C.2.1 hd hy kk
theorem x_dup (C : Cx p s m args meth c E A nL cc own) {a : Value} (hd : decode cc pc = .ok (.dup, 1)) (hp : pc + 1 = pc') (ha : a.category = 1) (k : Wx p l e R s m args below meth c E A nL cells slots Q pc' (lv) (a :: a :: st) (ws)) : Wx p l e R s m args below meth c E A nL cells slots Q pc (lv) (a :: st) (ws) := by
  subst hp; intro H locs ls hP hD hS hl
  have kk := k H locs ls hP hD hS hl
  exact lv_dup C.1 C.2.1 hd ha kk
theorem x_pop (C : Cx p s m args meth c E A nL cc own) {a : Value} (hd : decode cc pc = .ok (.pop, 1)) (hp : pc + 1 = pc') (ha : a.category = 1) (k : Wx p l e R s m args below meth c E A nL cells slots Q pc' (lv) (st) (ws)) : Wx p l e R s m args below meth c E A nL cells slots Q pc (lv) (a :: st) (ws) := by
  subst hp; intro H locs ls hP hD hS hl
  have kk := k H locs ls hP hD hS hl
  exact lv_pop C.1 C.2.1 hd ha kk
theorem x_dup_x1 (C : Cx p s m args meth c E A nL cc own) {a b : Value} (hd : decode cc pc = .ok (.dup_x1, 1)) (hp : pc + 1 = pc') (ha : a.category = 1) (hb : b.category = 1) (k : Wx p l e R s m args below meth c E A nL cells slots Q pc' (lv) (a :: b :: a :: st) (ws)) : Wx p l e R s m args below meth c E A nL cells slots Q pc (lv) (a :: b :: st) (ws) := by
  subst hp; intro H locs ls hP hD hS hl
  have kk := k H locs ls hP hD hS hl
  exact lv_dup_x1 C.1 C.2.1 hd ha hb kk
theorem x_dup2 (C : Cx p s m args meth c E A nL cc own) {a b : Value} (hd : decode cc pc = .ok (.dup2, 1)) (hp : pc + 1 = pc') (ha : a.category = 1) (hb : b.category = 1) (k : Wx p l e R s m args below meth c E A nL cells slots Q pc' (lv) (a :: b :: a :: b :: st) (ws)) : Wx p l e R s m args below meth c E A nL cells slots Q pc (lv) (a :: b :: st) (ws) := by
  subst hp; intro H locs ls hP hD hS hl
  have kk := k H locs ls hP hD hS hl
  exact lv_dup2_11 C.1 C.2.1 hd ha hb kk
theorem x_goto (C : Cx p s m args meth c E A nL cc own) {off : Int} {tgt : Nat} (hd : decode cc pc = .ok (.goto off, 3)) (ht : (pc : Int) + off = (tgt : Int)) (k : Wx p l e R s m args below meth c E A nL cells slots Q tgt (lv) (st) (ws)) : Wx p l e R s m args below meth c E A nL cells slots Q pc (lv) (st) (ws) := by
  intro H locs ls hP hD hS hl
  exact lv_goto C.1 C.2.1 hd ht (k H locs ls hP hD hS hl)
theorem x_icmp_eq (C : Cx p s m args meth c E A nL cc own) {x y : Int} {off : Int} {tgt : Nat} (hd : decode cc pc = .ok (.if_icmp .eq off, 3)) (hp : pc + 3 = pc') (ht : (pc : Int) + off = (tgt : Int)) (hx : -2147483648 ≤ x ∧ x < 2147483648) (hy : -2147483648 ≤ y ∧ y < 2147483648) (kt : x = y → Wx p l e R s m args below meth c E A nL cells slots Q tgt (lv) (st) (ws)) (kf : x ≠ y → Wx p l e R s m args below meth c E A nL cells slots Q pc' (lv) (st) (ws)) : Wx p l e R s m args below meth c E A nL cells slots Q pc (lv) (.int (iI y) :: .int (iI x) :: st) (ws) := by
  subst hp; intro H locs ls hP hD hS hl
  refine lv_icmp_eq C.1 C.2.1 hd ht (fun h => kt ?_ H locs ls hP hD hS hl) (fun h => kf ?_ H locs ls hP hD hS hl)
  · revert h; first | rw [iI_lt hx hy] | rw [iI_lt hy hx] | rw [iI_le hx hy] | rw [iI_le hy hx] | rw [iI_eq hx hy] | rw [ne_eq, iI_eq hx hy] | rw [iI_eq hy hx]
    omega
  · revert h; first | rw [iI_lt hx hy] | rw [iI_lt hy hx] | rw [iI_le hx hy] | rw [iI_le hy hx] | rw [iI_eq hx hy] | rw [ne_eq, iI_eq hx hy] | rw [iI_eq hy hx]
    omega
theorem x_if_eq (C : Cx p s m args meth c E A nL cc own) {x : Int} {off : Int} {tgt : Nat} (hd : decode cc pc = .ok (.ifCond .eq off, 3)) (hp : pc + 3 = pc') (ht : (pc : Int) + off = (tgt : Int)) (hx : -2147483648 ≤ x ∧ x < 2147483648) (kt : x = 0 → Wx p l e R s m args below meth c E A nL cells slots Q tgt (lv) (st) (ws)) (kf : x ≠ 0 → Wx p l e R s m args below meth c E A nL cells slots Q pc' (lv) (st) (ws)) : Wx p l e R s m args below meth c E A nL cells slots Q pc (lv) (.int (iI x) :: st) (ws) := by
  subst hp; intro H locs ls hP hD hS hl
  have hy : -2147483648 ≤ (0 : Int) ∧ (0 : Int) < 2147483648 := by omega
  have e0 : (0 : Int32) = iI 0 := rfl
  refine lv_if_eq C.1 C.2.1 hd ht (fun h => kt ?_ H locs ls hP hD hS hl) (fun h => kf ?_ H locs ls hP hD hS hl)
  · revert h; rw [e0]; first | rw [iI_lt hx hy] | rw [iI_lt hy hx] | rw [iI_le hx hy] | rw [iI_le hy hx] | rw [iI_eq hx hy] | rw [ne_eq, iI_eq hx hy]
    omega
  · revert h; rw [e0]; first | rw [iI_lt hx hy] | rw [iI_lt hy hx] | rw [iI_le hx hy] | rw [iI_le hy hx] | rw [iI_eq hx hy] | rw [ne_eq, iI_eq hx hy]
    omega
theorem x_icmp_ne (C : Cx p s m args meth c E A nL cc own) {x y : Int} {off : Int} {tgt : Nat} (hd : decode cc pc = .ok (.if_icmp .ne off, 3)) (hp : pc + 3 = pc') (ht : (pc : Int) + off = (tgt : Int)) (hx : -2147483648 ≤ x ∧ x < 2147483648) (hy : -2147483648 ≤ y ∧ y < 2147483648) (kt : x ≠ y → Wx p l e R s m args below meth c E A nL cells slots Q tgt (lv) (st) (ws)) (kf : x = y → Wx p l e R s m args below meth c E A nL cells slots Q pc' (lv) (st) (ws)) : Wx p l e R s m args below meth c E A nL cells slots Q pc (lv) (.int (iI y) :: .int (iI x) :: st) (ws) := by
  subst hp; intro H locs ls hP hD hS hl
  refine lv_icmp_ne C.1 C.2.1 hd ht (fun h => kt ?_ H locs ls hP hD hS hl) (fun h => kf ?_ H locs ls hP hD hS hl)
  · revert h; first | rw [iI_lt hx hy] | rw [iI_lt hy hx] | rw [iI_le hx hy] | rw [iI_le hy hx] | rw [iI_eq hx hy] | rw [ne_eq, iI_eq hx hy] | rw [iI_eq hy hx]
    omega
  · revert h; first | rw [iI_lt hx hy] | rw [iI_lt hy hx] | rw [iI_le hx hy] | rw [iI_le hy hx] | rw [iI_eq hx hy] | rw [ne_eq, iI_eq hx hy] | rw [iI_eq hy hx]
    omega
theorem x_if_ne (C : Cx p s m args meth c E A nL cc own) {x : Int} {off : Int} {tgt : Nat} (hd : decode cc pc = .ok (.ifCond .ne off, 3)) (hp : pc + 3 = pc') (ht : (pc : Int) + off = (tgt : Int)) (hx : -2147483648 ≤ x ∧ x < 2147483648) (kt : x ≠ 0 → Wx p l e R s m args below meth c E A nL cells slots Q tgt (lv) (st) (ws)) (kf : x = 0 → Wx p l e R s m args below meth c E A nL cells slots Q pc' (lv) (st) (ws)) : Wx p l e R s m args below meth c E A nL cells slots Q pc (lv) (.int (iI x) :: st) (ws) := by
  subst hp; intro H locs ls hP hD hS hl
  have hy : -2147483648 ≤ (0 : Int) ∧ (0 : Int) < 2147483648 := by omega
  have e0 : (0 : Int32) = iI 0 := rfl
  refine lv_if_ne C.1 C.2.1 hd ht (fun h => kt ?_ H locs ls hP hD hS hl) (fun h => kf ?_ H locs ls hP hD hS hl)
  · revert h; rw [e0]; first | rw [iI_lt hx hy] | rw [iI_lt hy hx] | rw [iI_le hx hy] | rw [iI_le hy hx] | rw [iI_eq hx hy] | rw [ne_eq, iI_eq hx hy]
    omega
  · revert h; rw [e0]; first | rw [iI_lt hx hy] | rw [iI_lt hy hx] | rw [iI_le hx hy] | rw [iI_le hy hx] | rw [iI_eq hx hy] | rw [ne_eq, iI_eq hx hy]
    omega
theorem x_icmp_lt (C : Cx p s m args meth c E A nL cc own) {x y : Int} {off : Int} {tgt : Nat} (hd : decode cc pc = .ok (.if_icmp .lt off, 3)) (hp : pc + 3 = pc') (ht : (pc : Int) + off = (tgt : Int)) (hx : -2147483648 ≤ x ∧ x < 2147483648) (hy : -2147483648 ≤ y ∧ y < 2147483648) (kt : x < y → Wx p l e R s m args below meth c E A nL cells slots Q tgt (lv) (st) (ws)) (kf : y ≤ x → Wx p l e R s m args below meth c E A nL cells slots Q pc' (lv) (st) (ws)) : Wx p l e R s m args below meth c E A nL cells slots Q pc (lv) (.int (iI y) :: .int (iI x) :: st) (ws) := by
  subst hp; intro H locs ls hP hD hS hl
  refine lv_icmp_lt C.1 C.2.1 hd ht (fun h => kt ?_ H locs ls hP hD hS hl) (fun h => kf ?_ H locs ls hP hD hS hl)
  · revert h; first | rw [iI_lt hx hy] | rw [iI_lt hy hx] | rw [iI_le hx hy] | rw [iI_le hy hx] | rw [iI_eq hx hy] | rw [ne_eq, iI_eq hx hy] | rw [iI_eq hy hx]
    omega
  · revert h; first | rw [iI_lt hx hy] | rw [iI_lt hy hx] | rw [iI_le hx hy] | rw [iI_le hy hx] | rw [iI_eq hx hy] | rw [ne_eq, iI_eq hx hy] | rw [iI_eq hy hx]
    omega
theorem x_if_lt (C : Cx p s m args meth c E A nL cc own) {x : Int} {off : Int} {tgt : Nat} (hd : decode cc pc = .ok (.ifCond .lt off, 3)) (hp : pc + 3 = pc') (ht : (pc : Int) + off = (tgt : Int)) (hx : -2147483648 ≤ x ∧ x < 2147483648) (kt : x < 0 → Wx p l e R s m args below meth c E A nL cells slots Q tgt (lv) (st) (ws)) (kf : 0 ≤ x → Wx p l e R s m args below meth c E A nL cells slots Q pc' (lv) (st) (ws)) : Wx p l e R s m args below meth c E A nL cells slots Q pc (lv) (.int (iI x) :: st) (ws) := by
  subst hp; intro H locs ls hP hD hS hl
  have hy : -2147483648 ≤ (0 : Int) ∧ (0 : Int) < 2147483648 := by omega
  have e0 : (0 : Int32) = iI 0 := rfl
  refine lv_if_lt C.1 C.2.1 hd ht (fun h => kt ?_ H locs ls hP hD hS hl) (fun h => kf ?_ H locs ls hP hD hS hl)
  · revert h; rw [e0]; first | rw [iI_lt hx hy] | rw [iI_lt hy hx] | rw [iI_le hx hy] | rw [iI_le hy hx] | rw [iI_eq hx hy] | rw [ne_eq, iI_eq hx hy]
    omega
  · revert h; rw [e0]; first | rw [iI_lt hx hy] | rw [iI_lt hy hx] | rw [iI_le hx hy] | rw [iI_le hy hx] | rw [iI_eq hx hy] | rw [ne_eq, iI_eq hx hy]
    omega
theorem x_icmp_ge (C : Cx p s m args meth c E A nL cc own) {x y : Int} {off : Int} {tgt : Nat} (hd : decode cc pc = .ok (.if_icmp .ge off, 3)) (hp : pc + 3 = pc') (ht : (pc : Int) + off = (tgt : Int)) (hx : -2147483648 ≤ x ∧ x < 2147483648) (hy : -2147483648 ≤ y ∧ y < 2147483648) (kt : y ≤ x → Wx p l e R s m args below meth c E A nL cells slots Q tgt (lv) (st) (ws)) (kf : x < y → Wx p l e R s m args below meth c E A nL cells slots Q pc' (lv) (st) (ws)) : Wx p l e R s m args below meth c E A nL cells slots Q pc (lv) (.int (iI y) :: .int (iI x) :: st) (ws) := by
  subst hp; intro H locs ls hP hD hS hl
  refine lv_icmp_ge C.1 C.2.1 hd ht (fun h => kt ?_ H locs ls hP hD hS hl) (fun h => kf ?_ H locs ls hP hD hS hl)
  · revert h; first | rw [iI_lt hx hy] | rw [iI_lt hy hx] | rw [iI_le hx hy] | rw [iI_le hy hx] | rw [iI_eq hx hy] | rw [ne_eq, iI_eq hx hy] | rw [iI_eq hy hx]
    omega
  · revert h; first | rw [iI_lt hx hy] | rw [iI_lt hy hx] | rw [iI_le hx hy] | rw [iI_le hy hx] | rw [iI_eq hx hy] | rw [ne_eq, iI_eq hx hy] | rw [iI_eq hy hx]
    omega
theorem x_if_ge (C : Cx p s m args meth c E A nL cc own) {x : Int} {off : Int} {tgt : Nat} (hd : decode cc pc = .ok (.ifCond .ge off, 3)) (hp : pc + 3 = pc') (ht : (pc : Int) + off = (tgt : Int)) (hx : -2147483648 ≤ x ∧ x < 2147483648) (kt : 0 ≤ x → Wx p l e R s m args below meth c E A nL cells slots Q tgt (lv) (st) (ws)) (kf : x < 0 → Wx p l e R s m args below meth c E A nL cells slots Q pc' (lv) (st) (ws)) : Wx p l e R s m args below meth c E A nL cells slots Q pc (lv) (.int (iI x) :: st) (ws) := by
  subst hp; intro H locs ls hP hD hS hl
  have hy : -2147483648 ≤ (0 : Int) ∧ (0 : Int) < 2147483648 := by omega
  have e0 : (0 : Int32) = iI 0 := rfl
  refine lv_if_ge C.1 C.2.1 hd ht (fun h => kt ?_ H locs ls hP hD hS hl) (fun h => kf ?_ H locs ls hP hD hS hl)
  · revert h; rw [e0]; first | rw [iI_lt hx hy] | rw [iI_lt hy hx] | rw [iI_le hx hy] | rw [iI_le hy hx] | rw [iI_eq hx hy] | rw [ne_eq, iI_eq hx hy]
    omega
  · revert h; rw [e0]; first | rw [iI_lt hx hy] | rw [iI_lt hy hx] | rw [iI_le hx hy] | rw [iI_le hy hx] | rw [iI_eq hx hy] | rw [ne_eq, iI_eq hx hy]
    omega
theorem x_icmp_gt (C : Cx p s m args meth c E A nL cc own) {x y : Int} {off : Int} {tgt : Nat} (hd : decode cc pc = .ok (.if_icmp .gt off, 3)) (hp : pc + 3 = pc') (ht : (pc : Int) + off = (tgt : Int)) (hx : -2147483648 ≤ x ∧ x < 2147483648) (hy : -2147483648 ≤ y ∧ y < 2147483648) (kt : y < x → Wx p l e R s m args below meth c E A nL cells slots Q tgt (lv) (st) (ws)) (kf : x ≤ y → Wx p l e R s m args below meth c E A nL cells slots Q pc' (lv) (st) (ws)) : Wx p l e R s m args below meth c E A nL cells slots Q pc (lv) (.int (iI y) :: .int (iI x) :: st) (ws) := by
  subst hp; intro H locs ls hP hD hS hl
  refine lv_icmp_gt C.1 C.2.1 hd ht (fun h => kt ?_ H locs ls hP hD hS hl) (fun h => kf ?_ H locs ls hP hD hS hl)
  · revert h; first | rw [iI_lt hx hy] | rw [iI_lt hy hx] | rw [iI_le hx hy] | rw [iI_le hy hx] | rw [iI_eq hx hy] | rw [ne_eq, iI_eq hx hy] | rw [iI_eq hy hx]
    omega
  · revert h; first | rw [iI_lt hx hy] | rw [iI_lt hy hx] | rw [iI_le hx hy] | rw [iI_le hy hx] | rw [iI_eq hx hy] | rw [ne_eq, iI_eq hx hy] | rw [iI_eq hy hx]
    omega
theorem x_if_gt (C : Cx p s m args meth c E A nL cc own) {x : Int} {off : Int} {tgt : Nat} (hd : decode cc pc = .ok (.ifCond .gt off, 3)) (hp : pc + 3 = pc') (ht : (pc : Int) + off = (tgt : Int)) (hx : -2147483648 ≤ x ∧ x < 2147483648) (kt : 0 < x → Wx p l e R s m args below meth c E A nL cells slots Q tgt (lv) (st) (ws)) (kf : x ≤ 0 → Wx p l e R s m args below meth c E A nL cells slots Q pc' (lv) (st) (ws)) : Wx p l e R s m args below meth c E A nL cells slots Q pc (lv) (.int (iI x) :: st) (ws) := by
  subst hp; intro H locs ls hP hD hS hl
  have hy : -2147483648 ≤ (0 : Int) ∧ (0 : Int) < 2147483648 := by omega
  have e0 : (0 : Int32) = iI 0 := rfl
  refine lv_if_gt C.1 C.2.1 hd ht (fun h => kt ?_ H locs ls hP hD hS hl) (fun h => kf ?_ H locs ls hP hD hS hl)
  · revert h; rw [e0]; first | rw [iI_lt hx hy] | rw [iI_lt hy hx] | rw [iI_le hx hy] | rw [iI_le hy hx] | rw [iI_eq hx hy] | rw [ne_eq, iI_eq hx hy]
    omega
  · revert h; rw [e0]; first | rw [iI_lt hx hy] | rw [iI_lt hy hx] | rw [iI_le hx hy] | rw [iI_le hy hx] | rw [iI_eq hx hy] | rw [ne_eq, iI_eq hx hy]
    omega
theorem x_icmp_le (C : Cx p s m args meth c E A nL cc own) {x y : Int} {off : Int} {tgt : Nat} (hd : decode cc pc = .ok (.if_icmp .le off, 3)) (hp : pc + 3 = pc') (ht : (pc : Int) + off = (tgt : Int)) (hx : -2147483648 ≤ x ∧ x < 2147483648) (hy : -2147483648 ≤ y ∧ y < 2147483648) (kt : x ≤ y → Wx p l e R s m args below meth c E A nL cells slots Q tgt (lv) (st) (ws)) (kf : y < x → Wx p l e R s m args below meth c E A nL cells slots Q pc' (lv) (st) (ws)) : Wx p l e R s m args below meth c E A nL cells slots Q pc (lv) (.int (iI y) :: .int (iI x) :: st) (ws) := by
  subst hp; intro H locs ls hP hD hS hl
  refine lv_icmp_le C.1 C.2.1 hd ht (fun h => kt ?_ H locs ls hP hD hS hl) (fun h => kf ?_ H locs ls hP hD hS hl)
  · revert h; first | rw [iI_lt hx hy] | rw [iI_lt hy hx] | rw [iI_le hx hy] | rw [iI_le hy hx] | rw [iI_eq hx hy] | rw [ne_eq, iI_eq hx hy] | rw [iI_eq hy hx]
    omega
  · revert h; first | rw [iI_lt hx hy] | rw [iI_lt hy hx] | rw [iI_le hx hy] | rw [iI_le hy hx] | rw [iI_eq hx hy] | rw [ne_eq, iI_eq hx hy] | rw [iI_eq hy hx]
    omega
theorem x_if_le (C : Cx p s m args meth c E A nL cc own) {x : Int} {off : Int} {tgt : Nat} (hd : decode cc pc = .ok (.ifCond .le off, 3)) (hp : pc + 3 = pc') (ht : (pc : Int) + off = (tgt : Int)) (hx : -2147483648 ≤ x ∧ x < 2147483648) (kt : x ≤ 0 → Wx p l e R s m args below meth c E A nL cells slots Q tgt (lv) (st) (ws)) (kf : 0 < x → Wx p l e R s m args below meth c E A nL cells slots Q pc' (lv) (st) (ws)) : Wx p l e R s m args below meth c E A nL cells slots Q pc (lv) (.int (iI x) :: st) (ws) := by
  subst hp; intro H locs ls hP hD hS hl
  have hy : -2147483648 ≤ (0 : Int) ∧ (0 : Int) < 2147483648 := by omega
  have e0 : (0 : Int32) = iI 0 := rfl
  refine lv_if_le C.1 C.2.1 hd ht (fun h => kt ?_ H locs ls hP hD hS hl) (fun h => kf ?_ H locs ls hP hD hS hl)
  · revert h; rw [e0]; first | rw [iI_lt hx hy] | rw [iI_lt hy hx] | rw [iI_le hx hy] | rw [iI_le hy hx] | rw [iI_eq hx hy] | rw [ne_eq, iI_eq hx hy]
    omega
  · revert h; rw [e0]; first | rw [iI_lt hx hy] | rw [iI_lt hy hx] | rw [iI_le hx hy] | rw [iI_le hy hx] | rw [iI_eq hx hy] | rw [ne_eq, iI_eq hx hy]
    omega
theorem x_lcmp_eq (C : Cx p s m args meth c E A nL cc own) {x y : Int} {off : Int} {tgt pc1 : Nat} (hd0 : decode cc pc = .ok (.lcmp, 1)) (hp0 : pc + 1 = pc1) (hd : decode cc pc1 = .ok (.ifCond .eq off, 3)) (hp : pc1 + 3 = pc') (ht : (pc1 : Int) + off = (tgt : Int)) (hx : -9223372036854775808 ≤ x ∧ x < 9223372036854775808) (hy : -9223372036854775808 ≤ y ∧ y < 9223372036854775808) (kt : x = y → Wx p l e R s m args below meth c E A nL cells slots Q tgt (lv) (st) (ws)) (kf : x ≠ y → Wx p l e R s m args below meth c E A nL cells slots Q pc' (lv) (st) (ws)) : Wx p l e R s m args below meth c E A nL cells slots Q pc (lv) (.long (lI y) :: .long (lI x) :: st) (ws) := by
  subst hp; subst hp0; intro H locs ls hP hD hS hl
  refine W.lcmp C.1 C.2.1 hd0 ?_
  have g1 : lI x > lI y ↔ y < x := lI_lt hy hx
  have g2 : lI x = lI y ↔ x = y := lI_eq hx hy
  have hc : lg_cmp (lI x) (lI y) = iI (if y < x then 1 else if x = y then 0 else -1) := by
    unfold lg_cmp
    by_cases h1 : y < x
    · rw [if_pos (g1.mpr h1), if_pos h1]; rfl
    · rw [if_neg (fun h => h1 (g1.mp h)), if_neg h1]
      by_cases h2 : x = y
      · rw [if_pos (g2.mpr h2), if_pos h2]; rfl
      · rw [if_neg (fun h => h2 (g2.mp h)), if_neg h2]; rfl
  rw [hc]
  refine x_if_eq C hd rfl ht (by split <;> (try split) <;> omega) (fun h => kt ?_) (fun h => kf ?_) H locs ls hP hD hS hl
  · revert h; split <;> (try split) <;> omega
  · revert h; split <;> (try split) <;> omega
theorem x_lcmp_ne (C : Cx p s m args meth c E A nL cc own) {x y : Int} {off : Int} {tgt pc1 : Nat} (hd0 : decode cc pc = .ok (.lcmp, 1)) (hp0 : pc + 1 = pc1) (hd : decode cc pc1 = .ok (.ifCond .ne off, 3)) (hp : pc1 + 3 = pc') (ht : (pc1 : Int) + off = (tgt : Int)) (hx : -9223372036854775808 ≤ x ∧ x < 9223372036854775808) (hy : -9223372036854775808 ≤ y ∧ y < 9223372036854775808) (kt : x ≠ y → Wx p l e R s m args below meth c E A nL cells slots Q tgt (lv) (st) (ws)) (kf : x = y → Wx p l e R s m args below meth c E A nL cells slots Q pc' (lv) (st) (ws)) : Wx p l e R s m args below meth c E A nL cells slots Q pc (lv) (.long (lI y) :: .long (lI x) :: st) (ws) := by
  subst hp; subst hp0; intro H locs ls hP hD hS hl
  refine W.lcmp C.1 C.2.1 hd0 ?_
  have g1 : lI x > lI y ↔ y < x := lI_lt hy hx
  have g2 : lI x = lI y ↔ x = y := lI_eq hx hy
  have hc : lg_cmp (lI x) (lI y) = iI (if y < x then 1 else if x = y then 0 else -1) := by
    unfold lg_cmp
    by_cases h1 : y < x
    · rw [if_pos (g1.mpr h1), if_pos h1]; rfl
    · rw [if_neg (fun h => h1 (g1.mp h)), if_neg h1]
      by_cases h2 : x = y
      · rw [if_pos (g2.mpr h2), if_pos h2]; rfl
      · rw [if_neg (fun h => h2 (g2.mp h)), if_neg h2]; rfl
  rw [hc]
  refine x_if_ne C hd rfl ht (by split <;> (try split) <;> omega) (fun h => kt ?_) (fun h => kf ?_) H locs ls hP hD hS hl
  · revert h; split <;> (try split) <;> omega
  · revert h; split <;> (try split) <;> omega
theorem x_lcmp_lt (C : Cx p s m args meth c E A nL cc own) {x y : Int} {off : Int} {tgt pc1 : Nat} (hd0 : decode cc pc = .ok (.lcmp, 1)) (hp0 : pc + 1 = pc1) (hd : decode cc pc1 = .ok (.ifCond .lt off, 3)) (hp : pc1 + 3 = pc') (ht : (pc1 : Int) + off = (tgt : Int)) (hx : -9223372036854775808 ≤ x ∧ x < 9223372036854775808) (hy : -9223372036854775808 ≤ y ∧ y < 9223372036854775808) (kt : x < y → Wx p l e R s m args below meth c E A nL cells slots Q tgt (lv) (st) (ws)) (kf : y ≤ x → Wx p l e R s m args below meth c E A nL cells slots Q pc' (lv) (st) (ws)) : Wx p l e R s m args below meth c E A nL cells slots Q pc (lv) (.long (lI y) :: .long (lI x) :: st) (ws) := by
  subst hp; subst hp0; intro H locs ls hP hD hS hl
  refine W.lcmp C.1 C.2.1 hd0 ?_
  have g1 : lI x > lI y ↔ y < x := lI_lt hy hx
  have g2 : lI x = lI y ↔ x = y := lI_eq hx hy
  have hc : lg_cmp (lI x) (lI y) = iI (if y < x then 1 else if x = y then 0 else -1) := by
    unfold lg_cmp
    by_cases h1 : y < x
    · rw [if_pos (g1.mpr h1), if_pos h1]; rfl
    · rw [if_neg (fun h => h1 (g1.mp h)), if_neg h1]
      by_cases h2 : x = y
      · rw [if_pos (g2.mpr h2), if_pos h2]; rfl
      · rw [if_neg (fun h => h2 (g2.mp h)), if_neg h2]; rfl
  rw [hc]
  refine x_if_lt C hd rfl ht (by split <;> (try split) <;> omega) (fun h => kt ?_) (fun h => kf ?_) H locs ls hP hD hS hl
  · revert h; split <;> (try split) <;> omega
  · revert h; split <;> (try split) <;> omega
theorem x_lcmp_ge (C : Cx p s m args meth c E A nL cc own) {x y : Int} {off : Int} {tgt pc1 : Nat} (hd0 : decode cc pc = .ok (.lcmp, 1)) (hp0 : pc + 1 = pc1) (hd : decode cc pc1 = .ok (.ifCond .ge off, 3)) (hp : pc1 + 3 = pc') (ht : (pc1 : Int) + off = (tgt : Int)) (hx : -9223372036854775808 ≤ x ∧ x < 9223372036854775808) (hy : -9223372036854775808 ≤ y ∧ y < 9223372036854775808) (kt : y ≤ x → Wx p l e R s m args below meth c E A nL cells slots Q tgt (lv) (st) (ws)) (kf : x < y → Wx p l e R s m args below meth c E A nL cells slots Q pc' (lv) (st) (ws)) : Wx p l e R s m args below meth c E A nL cells slots Q pc (lv) (.long (lI y) :: .long (lI x) :: st) (ws) := by
  subst hp; subst hp0; intro H locs ls hP hD hS hl
  refine W.lcmp C.1 C.2.1 hd0 ?_
  have g1 : lI x > lI y ↔ y < x := lI_lt hy hx
  have g2 : lI x = lI y ↔ x = y := lI_eq hx hy
  have hc : lg_cmp (lI x) (lI y) = iI (if y < x then 1 else if x = y then 0 else -1) := by
    unfold lg_cmp
    by_cases h1 : y < x
    · rw [if_pos (g1.mpr h1), if_pos h1]; rfl
    · rw [if_neg (fun h => h1 (g1.mp h)), if_neg h1]
      by_cases h2 : x = y
      · rw [if_pos (g2.mpr h2), if_pos h2]; rfl
      · rw [if_neg (fun h => h2 (g2.mp h)), if_neg h2]; rfl
  rw [hc]
  refine x_if_ge C hd rfl ht (by split <;> (try split) <;> omega) (fun h => kt ?_) (fun h => kf ?_) H locs ls hP hD hS hl
  · revert h; split <;> (try split) <;> omega
  · revert h; split <;> (try split) <;> omega
theorem x_lcmp_gt (C : Cx p s m args meth c E A nL cc own) {x y : Int} {off : Int} {tgt pc1 : Nat} (hd0 : decode cc pc = .ok (.lcmp, 1)) (hp0 : pc + 1 = pc1) (hd : decode cc pc1 = .ok (.ifCond .gt off, 3)) (hp : pc1 + 3 = pc') (ht : (pc1 : Int) + off = (tgt : Int)) (hx : -9223372036854775808 ≤ x ∧ x < 9223372036854775808) (hy : -9223372036854775808 ≤ y ∧ y < 9223372036854775808) (kt : y < x → Wx p l e R s m args below meth c E A nL cells slots Q tgt (lv) (st) (ws)) (kf : x ≤ y → Wx p l e R s m args below meth c E A nL cells slots Q pc' (lv) (st) (ws)) : Wx p l e R s m args below meth c E A nL cells slots Q pc (lv) (.long (lI y) :: .long (lI x) :: st) (ws) := by
  subst hp; subst hp0; intro H locs ls hP hD hS hl
  refine W.lcmp C.1 C.2.1 hd0 ?_
  have g1 : lI x > lI y ↔ y < x := lI_lt hy hx
  have g2 : lI x = lI y ↔ x = y := lI_eq hx hy
  have hc : lg_cmp (lI x) (lI y) = iI (if y < x then 1 else if x = y then 0 else -1) := by
    unfold lg_cmp
    by_cases h1 : y < x
    · rw [if_pos (g1.mpr h1), if_pos h1]; rfl
    · rw [if_neg (fun h => h1 (g1.mp h)), if_neg h1]
      by_cases h2 : x = y
      · rw [if_pos (g2.mpr h2), if_pos h2]; rfl
      · rw [if_neg (fun h => h2 (g2.mp h)), if_neg h2]; rfl
  rw [hc]
  refine x_if_gt C hd rfl ht (by split <;> (try split) <;> omega) (fun h => kt ?_) (fun h => kf ?_) H locs ls hP hD hS hl
  · revert h; split <;> (try split) <;> omega
  · revert h; split <;> (try split) <;> omega
theorem x_lcmp_le (C : Cx p s m args meth c E A nL cc own) {x y : Int} {off : Int} {tgt pc1 : Nat} (hd0 : decode cc pc = .ok (.lcmp, 1)) (hp0 : pc + 1 = pc1) (hd : decode cc pc1 = .ok (.ifCond .le off, 3)) (hp : pc1 + 3 = pc') (ht : (pc1 : Int) + off = (tgt : Int)) (hx : -9223372036854775808 ≤ x ∧ x < 9223372036854775808) (hy : -9223372036854775808 ≤ y ∧ y < 9223372036854775808) (kt : x ≤ y → Wx p l e R s m args below meth c E A nL cells slots Q tgt (lv) (st) (ws)) (kf : y < x → Wx p l e R s m args below meth c E A nL cells slots Q pc' (lv) (st) (ws)) : Wx p l e R s m args below meth c E A nL cells slots Q pc (lv) (.long (lI y) :: .long (lI x) :: st) (ws) := by
  subst hp; subst hp0; intro H locs ls hP hD hS hl
  refine W.lcmp C.1 C.2.1 hd0 ?_
  have g1 : lI x > lI y ↔ y < x := lI_lt hy hx
  have g2 : lI x = lI y ↔ x = y := lI_eq hx hy
  have hc : lg_cmp (lI x) (lI y) = iI (if y < x then 1 else if x = y then 0 else -1) := by
    unfold lg_cmp
    by_cases h1 : y < x
    · rw [if_pos (g1.mpr h1), if_pos h1]; rfl
    · rw [if_neg (fun h => h1 (g1.mp h)), if_neg h1]
      by_cases h2 : x = y
      · rw [if_pos (g2.mpr h2), if_pos h2]; rfl
      · rw [if_neg (fun h => h2 (g2.mp h)), if_neg h2]; rfl
  rw [hc]
  refine x_if_le C hd rfl ht (by split <;> (try split) <;> omega) (fun h => kt ?_) (fun h => kf ?_) H locs ls hP hD hS hl
  · revert h; split <;> (try split) <;> omega
  · revert h; split <;> (try split) <;> omega
theorem x_get (C : Cx p s m args meth c E A nL cc own) {index : Nat} {ci k a : Nat} {fs : List Value} {v : Value} (hd : decode cc pc = .ok (.getfield index, 3)) (hp : pc + 3 = pc') (hf : FF own index ci k) (q0 : Nat) (he : ws[q0]? = some (a, .inr (ci, fs))) (hv : fs[k]? = some v) (kk : Wx p l e R s m args below meth c E A nL cells slots Q pc' (lv) (v :: st) (ws)) : Wx p l e R s m args below meth c E A nL cells slots Q pc (lv) (.ref a :: st) (ws) := by
  subst hp; intro H locs ls hP hD hS hl
  obtain ⟨hx, hb, hml, hown, hts, hK, hA, hlk⟩ := C
  obtain ⟨C, T, N, ref, hc, hk, hin, hlink, hsame⟩ := hf
  rcases hlink with hlink | ⟨host, hlink⟩
  · exact va_get hx hb hts hin hown hK.1 hP q0 he hc k hk (hts _ hlink) (same_of hts hsame) hv hd (kk H locs ls hP hD hS hl)
  · exact va_getN hx hb hts hin hown hK.1 hP q0 he hc k hk (hK.2.use hlink) (same_of hts hsame) hv hd (kk H locs ls hP hD hS hl)
theorem x_put (C : Cx p s m args meth c E A nL cc own) {index : Nat} {ci k a : Nat} {fs : List Value} {v : Value} {ty : FieldType} {ws' : va_W} (hd : decode cc pc = .ok (.putfield index, 3)) (hp : pc + 3 = pc') (hf : PF own index ci k ty false) (q0 : Nat) (he : ws[q0]? = some (a, .inr (ci, fs))) (hn : narrow ty v = v) (hfit : fits ty v = true) (hl0 : k < fs.length) (hw : ws.set q0 (a, .inr (ci, fs.set k v)) = ws') (kk : Wx p l e R s m args below meth c E A nL cells slots Q pc' (lv) (st) (ws')) : Wx p l e R s m args below meth c E A nL cells slots Q pc (lv) (v :: .ref a :: st) (ws) := by
  subst hp; subst hw; intro H locs ls hP hD hS hl
  obtain ⟨hx, hb, hml, hown, hts, hK, hA, hlk⟩ := C
  obtain ⟨C, T, N, ref, ty0, hc, hk, hin, hty, hnm, hlink, hsame, hfin, -, hdesc⟩ := hf
  rcases hlink with hlink | ⟨-, host, hlink⟩
  · exact va_put hx hb hts hin ty0 hty hnm hown hK.1 hP hD hS q0 he hc k hk (hts _ hlink) (same_of hts hsame) hfin hdesc hn hfit hl0 hd (fun H1 locs1 hP1 hD1 hS1 => kk H1 locs1 ls hP1 hD1 hS1 hl)
  · exact va_putN hx hb hts hin ty0 hty hnm hown hK.1 hP hD hS q0 he hc k hk (hK.2.use hlink) (same_of hts hsame) hfin hdesc hn hfit hl0 hd (fun H1 locs1 hP1 hD1 hS1 => kk H1 locs1 ls hP1 hD1 hS1 hl)
theorem x_putF (C : Cx p s m args meth c E A nL cc own) {index : Nat} {ci k a : Nat} {fs : List Value} {v : Value} {ty : FieldType} {ws' : va_W} (hin0 : meth.name = "<init>") (hd : decode cc pc = .ok (.putfield index, 3)) (hp : pc + 3 = pc') (hf : PF own index ci k ty true) (q0 : Nat) (he : ws[q0]? = some (a, .inr (ci, fs))) (hn : narrow ty v = v) (hfit : fits ty v = true) (hl0 : k < fs.length) (hw : ws.set q0 (a, .inr (ci, fs.set k v)) = ws') (kk : Wx p l e R s m args below meth c E A nL cells slots Q pc' (lv) (st) (ws')) : Wx p l e R s m args below meth c E A nL cells slots Q pc (lv) (v :: .ref a :: st) (ws) := by
  subst hp; subst hw; intro H locs ls hP hD hS hl
  obtain ⟨hx, hb, hml, hown, hts, hK, hA, hlk⟩ := C
  obtain ⟨C, T, N, ref, ty0, hc, hk, hin, hty, hnm, hlink, hsame, hfin, hdecl, hdesc⟩ := hf
  rcases hlink with hlink | ⟨h, -⟩
  · exact va_putF hx hb hts hin ty0 hty hnm hown hK.1 hP hD hS q0 he hc k hk (hts _ hlink) (same_of hts hsame) hfin hin0 (hdecl rfl) hdesc hn hfit hl0 hd (fun H1 locs1 hP1 hD1 hS1 => kk H1 locs1 ls hP1 hD1 hS1 hl)
  · cases h
theorem x_iald (C : Cx p s m args meth c E A nL cc own) {a n : Nat} {f : Nat → Int} {i : Int} (j : Nat) (hd : decode cc pc = .ok (.iaload, 1)) (hp : pc + 1 = pc') (q0 : Nat) (he : ws[q0]? = some (a, ia E n f)) (hi : i = (j : Int)) (hj : j < n) (hn : n < 2147483648) (kk : Wx p l e R s m args below meth c E A nL cells slots Q pc' (lv) (.int (iI (f j)) :: st) (ws)) : Wx p l e R s m args below meth c E A nL cells slots Q pc (lv) (.int (iI i) :: .ref a :: st) (ws) := by
  subst hp; subst hi; intro H locs ls hP hD hS hl
  refine va_iald C.1 C.2.1 C.2.2.2.2.2.1.1 hP q0 0 he rfl (iI_in hj hn) hd ?_
  rw [iI_clamp (by omega)]
  exact kk H locs ls hP hD hS hl
theorem x_lald (C : Cx p s m args meth c E A nL cc own) {a n : Nat} {f : Nat → Int} {i : Int} (j : Nat) (hd : decode cc pc = .ok (.laload, 1)) (hp : pc + 1 = pc') (q0 : Nat) (he : ws[q0]? = some (a, la E n f)) (hi : i = (j : Int)) (hj : j < n) (hn : n < 2147483648) (kk : Wx p l e R s m args below meth c E A nL cells slots Q pc' (lv) (.long (lI (f j)) :: st) (ws)) : Wx p l e R s m args below meth c E A nL cells slots Q pc (lv) (.int (iI i) :: .ref a :: st) (ws) := by
  subst hp; subst hi; intro H locs ls hP hD hS hl
  refine va_lald C.1 C.2.1 C.2.2.2.2.2.1.1 hP q0 1 he rfl (iI_in hj hn) hd ?_
  rw [iI_clamp (by omega)]
  exact kk H locs ls hP hD hS hl
theorem x_aald (C : Cx p s m args meth c E A nL cc own) {a n : Nat} {f : Nat → Option Nat} {i : Int} {v : Nat} (j : Nat) (hd : decode cc pc = .ok (.aaload, 1)) (hp : pc + 1 = pc') (q0 : Nat) (he : ws[q0]? = some (a, ka E n f)) (hi : i = (j : Int)) (hj : j < n) (hn : n < 2147483648) (hv : f j = some v) (kk : Wx p l e R s m args below meth c E A nL cells slots Q pc' (lv) (.ref v :: st) (ws)) : Wx p l e R s m args below meth c E A nL cells slots Q pc (lv) (.int (iI i) :: .ref a :: st) (ws) := by
  subst hp; subst hi; intro H locs ls hP hD hS hl
  refine va_aldq C.1 C.2.1 C.2.2.2.2.2.1.1 hP q0 2 he rfl (iI_in hj hn) hd ?_
  rw [iI_clamp (by omega), hv]
  exact kk H locs ls hP hD hS hl
theorem x_iast (C : Cx p s m args meth c E A nL cc own) {a n : Nat} {f : Nat → Int} {i z : Int} {ws' : va_W} (j : Nat) (hd : decode cc pc = .ok (.iastore, 1)) (hp : pc + 1 = pc') (q0 : Nat) (he : ws[q0]? = some (a, ia E n f)) (hi : i = (j : Int)) (hj : j < n) (hn : n < 2147483648) (hw : ws.set q0 (a, ia E n (va_up f j z)) = ws') (kk : Wx p l e R s m args below meth c E A nL cells slots Q pc' (lv) (st) (ws')) : Wx p l e R s m args below meth c E A nL cells slots Q pc (lv) (.int (iI z) :: .int (iI i) :: .ref a :: st) (ws) := by
  subst hp; subst hi; subst hw; intro H locs ls hP hD hS hl
  refine va_iast C.1 C.2.1 C.2.2.2.2.2.1.1 hP hD hS q0 0 he rfl (iI_in hj hn) hd (fun H1 locs1 hP1 hD1 hS1 => ?_)
  rw [iI_clamp (by omega), iI_upd] at hP1 hD1
  exact kk H1 locs1 ls hP1 hD1 hS1 hl
theorem x_last (C : Cx p s m args meth c E A nL cc own) {a n : Nat} {f : Nat → Int} {i z : Int} {ws' : va_W} (j : Nat) (hd : decode cc pc = .ok (.lastore, 1)) (hp : pc + 1 = pc') (q0 : Nat) (he : ws[q0]? = some (a, la E n f)) (hi : i = (j : Int)) (hj : j < n) (hn : n < 2147483648) (hw : ws.set q0 (a, la E n (va_up f j z)) = ws') (kk : Wx p l e R s m args below meth c E A nL cells slots Q pc' (lv) (st) (ws')) : Wx p l e R s m args below meth c E A nL cells slots Q pc (lv) (.long (lI z) :: .int (iI i) :: .ref a :: st) (ws) := by
  subst hp; subst hi; subst hw; intro H locs ls hP hD hS hl
  refine va_last C.1 C.2.1 C.2.2.2.2.2.1.1 hP hD hS q0 1 he rfl (iI_in hj hn) hd (fun H1 locs1 hP1 hD1 hS1 => ?_)
  rw [iI_clamp (by omega), lI_upd] at hP1 hD1
  exact kk H1 locs1 ls hP1 hD1 hS1 hl
theorem x_alen (C : Cx p s m args meth c E A nL cc own) {a : Nat} {cA : ClassId} {x : vp_A} {ty : FieldType} (hd : decode cc pc = .ok (.arraylength, 1)) (hp : pc + 1 = pc') (q0 t0 : Nat) (he : ws[q0]? = some (a, .inl (cA, x))) (ht : (TYS E)[t0]? = some (cA, ty)) (kk : Wx p l e R s m args below meth c E A nL cells slots Q pc' (lv) (.int (iI (x.1 : Int)) :: st) (ws)) : Wx p l e R s m args below meth c E A nL cells slots Q pc (lv) (.ref a :: st) (ws) := by
  subst hp; intro H locs ls hP hD hS hl
  exact va_alen C.1 C.2.1 C.2.2.2.2.2.1.1 hP q0 t0 he ht (iI_ofNat _) hd (kk H locs ls hP hD hS hl)
theorem one_class {E : EV} {s : State} {cA : ClassId} {ty : FieldType} (t0 : Nat) {cB : ClassId} (h0 : (TYS E)[t0]? = some (cB, ty)) (hty : ty = .int ∨ ty = .long ∨ ∃ C, ty = .object C) (hK : va_K E.1 vwCl (TYS E ++ [(cA, ty)]) s) : cA = cB := by
  have h1 := (hK.2 t0 (cB, ty) (by rw [List.getElem?_append_left (List.getElem?_eq_some_iff.mp h0).1]; exact h0)).2
  have h2 := (hK.2 (TYS E).length (cA, ty) (by rw [List.getElem?_append_right (Nat.le_refl _), Nat.sub_self]; rfl)).2
  rcases hty with rfl | rfl | ⟨C, rfl⟩
  · exact Option.some.inj (Eq.trans (Eq.symm (show s.vm.findClass _ = some cA from h2)) (show s.vm.findClass _ = some cB from h1))
  · exact Option.some.inj (Eq.trans (Eq.symm (show s.vm.findClass _ = some cA from h2)) (show s.vm.findClass _ = some cB from h1))
  · obtain ⟨_, _, _, _, _, g1⟩ := h1
    obtain ⟨_, _, _, _, _, g2⟩ := h2
    exact Option.some.inj (g2.symm.trans g1)
theorem x_newa_i (C : Cx p s m args meth c E A nL cc own) {i : Int} (n : Nat) (hd : decode cc pc = .ok (.newarray .int, 2)) (hp : pc + 2 = pc') (hw : Cond.arrayClass .int ∈ gt) (hi : i = (n : Int)) (hn : n < 1000000) (hcells : cells + 1 ≤ R.cells) (hslots : slots + n ≤ R.slots) (kk : ∀ q : Nat, Wx p l e R s m args below meth c E A nL (cells + 1) (slots + n) Q pc' (lv) (.ref q :: st) (ws ++ [(q, ia E n (fun _ => 0))])) : Wx p l e R s m args below meth c E A nL cells slots Q pc (lv) (.int (iI i) :: st) (ws) := by
  subst hp; subst hi; intro H locs ls hP hD hS hl
  obtain ⟨hx, hb, hml, hown, hts, hK, hA, hlk⟩ := C
  have hby : n * componentBytes .int ≤ 536870912 := Nat.le_trans (Nat.mul_le_mul_left n (show componentBytes .int ≤ 8 by decide)) (by omega)
  refine va_newa (atype := .int) (a0 := (n, .inl (fun _ => iI 0))) (ty := .int) (N' := n) hx hb (hts _ hw) rfl hK.1 hP hD hS hA (fun cA => rfl) (by rw [show (0 : Int32) = iI 0 from rfl, iI_lt (by omega) (by omega)]; omega) (iI_clamp (by omega)) hby hcells hslots hd (fun q cA H1 hK1 hP1 hD1 hS1 => ?_)
  have hc := one_class (E := E) 0 (cB := E.2.1) rfl (by simp) hK1
  subst hc
  exact kk q H1 locs ls hP1 hD1 hS1 hl
theorem x_newa_l (C : Cx p s m args meth c E A nL cc own) {i : Int} (n : Nat) (hd : decode cc pc = .ok (.newarray .long, 2)) (hp : pc + 2 = pc') (hw : Cond.arrayClass .long ∈ gt) (hi : i = (n : Int)) (hn : n < 1000000) (hcells : cells + 1 ≤ R.cells) (hslots : slots + n ≤ R.slots) (kk : ∀ q : Nat, Wx p l e R s m args below meth c E A nL (cells + 1) (slots + n) Q pc' (lv) (.ref q :: st) (ws ++ [(q, la E n (fun _ => 0))])) : Wx p l e R s m args below meth c E A nL cells slots Q pc (lv) (.int (iI i) :: st) (ws) := by
  subst hp; subst hi; intro H locs ls hP hD hS hl
  obtain ⟨hx, hb, hml, hown, hts, hK, hA, hlk⟩ := C
  have hby : n * componentBytes .long ≤ 536870912 := Nat.le_trans (Nat.mul_le_mul_left n (show componentBytes .long ≤ 8 by decide)) (by omega)
  refine va_newa (atype := .long) (a0 := (n, .inr (.inl (fun _ => lI 0)))) (ty := .long) (N' := n) hx hb (hts _ hw) rfl hK.1 hP hD hS hA (fun cA => rfl) (by rw [show (0 : Int32) = iI 0 from rfl, iI_lt (by omega) (by omega)]; omega) (iI_clamp (by omega)) hby hcells hslots hd (fun q cA H1 hK1 hP1 hD1 hS1 => ?_)
  have hc := one_class (E := E) 1 (cB := E.2.2.1) rfl (by simp) hK1
  subst hc
  exact kk q H1 locs ls hP1 hD1 hS1 hl
theorem x_newq (C : Cx p s m args meth c E A nL cc own) {i : Int} {index : Nat} (n : Nat) (hd : decode cc pc = .ok (.anewarray index, 3)) (hp : pc + 3 = pc') (hw : Cond.classLink own index "PriceRise$Kind" ∈ gt) (hi : i = (n : Int)) (hn : n < 1000000) (hcells : cells + 1 ≤ R.cells) (hslots : slots + n ≤ R.slots) (kk : ∀ q : Nat, Wx p l e R s m args below meth c E A nL (cells + 1) (slots + n) Q pc' (lv) (.ref q :: st) (ws ++ [(q, ka E n (fun _ => none))])) : Wx p l e R s m args below meth c E A nL cells slots Q pc (lv) (.int (iI i) :: st) (ws) := by
  subst hp; subst hi; intro H locs ls hP hD hS hl
  obtain ⟨hx, hb, hml, hown, hts, hK, hA, hlk⟩ := C
  refine va_newq (N' := n) hx hb hown (hts _ hw) hK.2.2 hK.1 hP hD hS hA (by rw [show (0 : Int32) = iI 0 from rfl, iI_lt (by omega) (by omega)]; omega) (iI_clamp (by omega)) (by omega) hcells hslots hd (fun q cA H1 hK1 hP1 hD1 hS1 => ?_)
  have hc := one_class (E := E) 2 (cB := E.2.2.2) rfl (by simp) hK1
  subst hc
  exact kk q H1 locs ls hP1 hD1 hS1 hl
theorem x_aast (C : Cx p s m args meth c E A nL cc own) {a n : Nat} {f : Nat → Option Nat} {i : Int} {v ci : Nat} {r : vw_C} {vs : List Value} {ws' : va_W} (j : Nat) (hd : decode cc pc = .ok (.aastore, 1)) (hp : pc + 1 = pc') (q0 qk : Nat) (he : ws[q0]? = some (a, ka E n f)) (hv : ws[qk]? = some (v, .inr (ci, vs))) (hc : vwCl[ci]? = some r) (hca : Cond.castable r.1 "PriceRise$Kind" ∈ ntw) (hi : i = (j : Int)) (hj : j < n) (hn : n < 2147483648) (hw : ws.set q0 (a, ka E n (va_up f j (some v))) = ws') (kk : Wx p l e R s m args below meth c E A nL cells slots Q pc' (lv) (st) (ws')) : Wx p l e R s m args below meth c E A nL cells slots Q pc (lv) (.ref v :: .int (iI i) :: .ref a :: st) (ws) := by
  subst hp; subst hi; subst hw; intro H locs ls hP hD hS hl
  refine va_astqO C.1 C.2.1 C.2.2.2.2.2.1.1 hP hD hS q0 2 qk ci he rfl (C.2.2.2.2.2.1.2.1 _ hca) hv hc (iI_in hj hn) hd (fun H1 locs1 hP1 hD1 hS1 => ?_)
  rw [iI_clamp (by omega)] at hP1 hD1
  exact kk H1 locs1 ls hP1 hD1 hS1 hl
def NW (own : String) (index ci : Nat) (fs : List Value) : Prop := ∃ (C : String) (T : u_T) (N : Nat) (ty : Nat → FieldType), vwCl[ci]? = some (C, T, N) ∧ fs.length = N ∧ (∀ w ∈ u_ws C T N, w ∈ gt) ∧ (∀ k, k < N → parseFieldDescriptor (T k).2.2.1 = some (ty k)) ∧ (∀ w ∈ ([.classLink own index C, .instantiable C N, .initialized C] : List Cond), w ∈ gt) ∧ (∀ j, j < N → defaultValue (ty j) = vp_V fs j)
theorem x_new (C : Cx p s m args meth c E A nL cc own) {index ci : Nat} {fs : List Value} (hd : decode cc pc = .ok (.new index, 3)) (hp : pc + 3 = pc') (hw : NW own index ci fs) (hcells : cells + 1 ≤ R.cells) (hslots : slots + fs.length ≤ R.slots) (kk : ∀ q : Nat, Wx p l e R s m args below meth c E A nL (cells + 1) (slots + fs.length) Q pc' (lv) (.ref q :: st) (ws ++ [(q, .inr (ci, fs))])) : Wx p l e R s m args below meth c E A nL cells slots Q pc (lv) (st) (ws) := by
  subst hp; intro H locs ls hP hD hS hl
  obtain ⟨hx, hb, hml, hown, hts, hK, hA, hlk⟩ := C
  obtain ⟨C, T, N, ty, hc, hN, hin, hty, hws, hfs⟩ := hw
  subst hN
  exact va_new hx hb hts hin ty hty hown (hts _ (hws _ (by simp))) (hts _ (hws _ (by simp))) (hts _ (hws _ (by simp))) hK.1 hP hD hS hA hc hfs hcells hslots hd (fun q H1 hP1 hD1 hS1 => kk q H1 locs ls hP1 hD1 hS1 hl)
theorem x_objInit (C : Cx p s m args meth c E A nL cc own) {index a : Nat} (hd : decode cc pc = .ok (.invokespecial index, 3)) (hp : pc + 3 = pc') (hw : ∀ w ∈ ([.methodLink own index objectInit, .instanceMethod objectInit, .code objectInit ⟨#[0xb1]⟩ 1 none] : List Cond), w ∈ gt) (hf : 1 ≤ R.frames) (hlo : (st.map fun v => v.category).sum + 12 ≤ R.locals) (kk : Wx p l e R s m args below meth c E A nL cells slots Q pc' (lv) (st) (ws)) : Wx p l e R s m args below meth c E A nL cells slots Q pc (lv) (.ref a :: st) (ws) := by
  subst hp; intro H locs ls hP hD hS hl
  obtain ⟨hx, hb, hml, hown, hts, hK, hA, hlk⟩ := C
  exact W.objInit (g := F0 m pc ls (.ref a :: st)) hx hb hown (hts _ (hw _ (by simp))) (hts _ (hw _ (by simp))) (hts _ (hw _ (by simp))) rfl (by rw [hml]; exact hl.1) rfl hd hf (by simpa [F0, JFrame.monitorRoom] using hlo) (kk H locs ls hP hD hS hl)
theorem x_sub {ws' : va_W} (is : List Nat) (hn : va_nd is = true) (hs : is.map (fun i => ws[i]?) = ws'.map some) (kk : Wx p l e R s m args below meth c E A nL cells slots Q pc (lv) (st) (ws')) : Wx p l e R s m args below meth c E A nL cells slots Q pc (lv) (st) (ws) := by
  intro H locs ls hP hD hS hl
  refine kk H locs ls (fun k q hq => ?_) (hD.sub is hn hs) hS hl
  have h1 : (is.map (fun i => ws[i]?))[k]? = some (some q) := by rw [hs, List.getElem?_map, hq]; rfl
  rw [List.getElem?_map] at h1
  cases hi : is[k]? with
  | none => rw [hi] at h1; cases h1
  | some i => rw [hi] at h1; exact hP i q (Option.some.inj h1)
theorem x_lv {lv' : List (Nat × Value)} (ks : List Nat) (hs : lv_pick lv ks = lv') (kk : Wx p l e R s m args below meth c E A nL cells slots Q pc (lv') (st) (ws)) : Wx p l e R s m args below meth c E A nL cells slots Q pc (lv) (st) (ws) := fun H locs ls hP hD hS hl => kk H locs ls hP hD hS (lv_sub hl ks hs)
theorem x_top {a b : Value} (h : a = b) (kk : Wx p l e R s m args below meth c E A nL cells slots Q pc (lv) (b :: st) (ws)) : Wx p l e R s m args below meth c E A nL cells slots Q pc (lv) (a :: st) (ws) := h ▸ kk
theorem x_ws {ws' : va_W} (h : ws = ws') (kk : Wx p l e R s m args below meth c E A nL cells slots Q pc (lv) (st) (ws')) : Wx p l e R s m args below meth c E A nL cells slots Q pc (lv) (st) (ws) := h ▸ kk
theorem x_widen {k n : Nat} (h1 : cells ≤ k) (h2 : slots ≤ n) (kk : Wx p l e R s m args below meth c E A nL k n Q pc (lv) (st) (ws)) : Wx p l e R s m args below meth c E A nL cells slots Q pc (lv) (st) (ws) := fun H locs ls hP hD hS hl => W.widen h1 h2 (kk H locs ls hP hD hS hl)
theorem x_loop {α : Type} (I : α → Prop) (μ : α → Nat) (flv : α → List (Nat × Value)) (fws : α → va_W) (step : ∀ a, I a → (∀ b, I b → μ b < μ a → Wx p l e R s m args below meth c E A nL cells slots Q pc (flv b) (st) (fws b)) → Wx p l e R s m args below meth c E A nL cells slots Q pc (flv a) (st) (fws a)) (a : α) (h : I a) : Wx p l e R s m args below meth c E A nL cells slots Q pc (flv a) (st) (fws a) := by
  have key : ∀ (n : Nat) (a : α), μ a < n → I a → Wx p l e R s m args below meth c E A nL cells slots Q pc (flv a) (st) (fws a) := by
    intro n
    induction n with
    | zero => intro a h; omega
    | succ n ih => intro a hm hI; exact step a hI (fun b hb hlt => ih b (by omega) hb)
  exact key (μ a + 1) a (Nat.lt_succ_self _) h
theorem x_cut {α : Type} (I : α → Prop) (flv : α → List (Nat × Value)) (fst : α → List Value) (fws : α → va_W) (kk : ∀ a, I a → Wx p l e R s m args below meth c E A nL cells slots Q pc (flv a) (fst a) (fws a)) (a : α) (h : I a) : Wx p l e R s m args below meth c E A nL cells slots Q pc (flv a) (fst a) (fws a) := kk a h
theorem x_iret (C : Cx p s m args meth c E A nL cc own) {post : Option Value → va_W → Prop} {v : Int32} (hr : meth.sig.returnType = some .int) (hd : decode cc pc = .ok (.ireturn, 1)) (hq : post (some (.int v)) ws) : Wx p l e R s m args below meth c E A nL cells slots (MQ below (QX E post A) args s cells slots A) pc lv [.int v] ws := by
  intro H locs ls hP hD hS hl
  have hlocks := C.2.2.2.2.2.2.2
  exact W.iret C.1 C.2.1 hr (fun t ht hW => ⟨⟨_, ws, rfl, hq, by rw [ht]; exact hP, hD⟩, hS.F ht⟩) hS.2.2 hd hlocks
theorem x_zret (C : Cx p s m args meth c E A nL cc own) {post : Option Value → va_W → Prop} {v : Int32} (hn : narrow .boolean (.int v) = .int v) (hr : meth.sig.returnType = some .boolean) (hd : decode cc pc = .ok (.ireturn, 1)) (hq : post (some (.int v)) ws) : Wx p l e R s m args below meth c E A nL cells slots (MQ below (QX E post A) args s cells slots A) pc lv [.int v] ws := by
  intro H locs ls hP hD hS hl
  have hlocks := C.2.2.2.2.2.2.2
  exact W.zret C.1 C.2.1 hr hn (fun t ht hW => ⟨⟨_, ws, rfl, hq, by rw [ht]; exact hP, hD⟩, hS.F ht⟩) hS.2.2 hd hlocks
theorem x_lret (C : Cx p s m args meth c E A nL cc own) {post : Option Value → va_W → Prop} {v : Int64} (hr : meth.sig.returnType = some .long) (hd : decode cc pc = .ok (.lreturn, 1)) (hq : post (some (.long v)) ws) : Wx p l e R s m args below meth c E A nL cells slots (MQ below (QX E post A) args s cells slots A) pc lv [.long v] ws := by
  intro H locs ls hP hD hS hl
  have hlocks := C.2.2.2.2.2.2.2
  exact W.lret C.1 C.2.1 hr (fun t ht hW => ⟨⟨_, ws, rfl, hq, by rw [ht]; exact hP, hD⟩, hS.F ht⟩) hS.2.2 hd hlocks
theorem x_vret (C : Cx p s m args meth c E A nL cc own) {post : Option Value → va_W → Prop}  (hr : meth.sig.returnType = none) (hd : decode cc pc = .ok (.return_, 1)) (hq : post none ws) : Wx p l e R s m args below meth c E A nL cells slots (MQ below (QX E post A) args s cells slots A) pc lv [] ws := by
  intro H locs ls hP hD hS hl
  have hlocks := C.2.2.2.2.2.2.2
  exact W.vret C.1 C.2.1 hr (fun t ht hW => ⟨⟨_, ws, rfl, hq, by rw [ht]; exact hP, hD⟩, hS.F ht⟩) hS.2.2 hd hlocks
theorem x_aret (C : Cx p s m args meth c E A nL cc own) {post : Option Value → va_W → Prop} {v : Nat} {rt : String} (hr : meth.sig.returnType = some (.object rt)) (hd : decode cc pc = .ok (.areturn, 1)) (hq : post (some (.ref v)) ws) : Wx p l e R s m args below meth c E A nL cells slots (MQ below (QX E post A) args s cells slots A) pc lv [.ref v] ws := by
  intro H locs ls hP hD hS hl
  have hlocks := C.2.2.2.2.2.2.2
  exact W.aret C.1 C.2.1 hr (Or.inl ⟨_, rfl⟩) (Or.inr ⟨_, rfl⟩) (fun t ht hW => ⟨⟨_, ws, rfl, hq, by rw [ht]; exact hP, hD⟩, hS.F ht⟩) hS.2.2 hd hlocks
theorem x_behind (C : Cx p s m args meth c E A nL cc own) {post : Option Value → va_W → Prop} {wc wr : va_W} {a : Array Value} {mc ms : Nat} {rest : List Value} (isC isR : List Nat) (hC : isC.map (fun i => ws[i]?) = wc.map some) (hR : isR.map (fun i => ws[i]?) = wr.map some) (hnC : va_nd isC = true) (hn : va_nd isR = true) (hdis : ∀ i ∈ isR, i ∉ isC) (hp : pc + 3 = pc')
    (hr : ∀ (H : Heap) (locs : List Loc) (ls : Array Slot), va_P E.1 vwCl wc H → va_D A wc → ls.size = nL → va_Run p l e R s m args below meth c H locs cells slots mc ms (F0 m pc ls st) rest (QX E post (va_A wc H.size) a) (va_A wc H.size))
    (kk : ∀ (v : Option Value) (w : va_W), post v w → Wx p l e R s m args below meth c E A nL (cells + mc) (slots + ms) Q pc' lv (v.toList ++ rest) (wr ++ w)) : Wx p l e R s m args below meth c E A nL cells slots Q pc (lv) (st) (ws) := by
  subst hp
  intro H locs ls hP hD hS hl T hT X
  have hA := C.2.2.2.2.2.2.1
  have hPc : va_P E.1 vwCl wc H := fun k q hq => by
    have h1 : (isC.map (fun i => ws[i]?))[k]? = some (some q) := by rw [hC, List.getElem?_map, hq]; rfl
    rw [List.getElem?_map] at h1
    cases hi : isC[k]? with
    | none => rw [hi] at h1; cases h1
    | some i => rw [hi] at h1; exact hP i q (Option.some.inj h1)
  have hFc := va_free (wc := wc) hD hS hA isC hC
  have hDc : va_D A wc := hD.sub isC hnC hC
  obtain ⟨v, st₀, t, T', L, h0, X', hL, e1, e2, ⟨⟨v', w, hv, hpo, hb, hdw⟩, hz, hk⟩, stp⟩ := hr H locs ls hPc hDc hl.1 T hT X
  cases hv
  rw [h0] at hz hk
  obtain ⟨hP2, hD2⟩ := va_join (w1 := w) (H1 := t.heap) hP hD isC isR hC hR hn hdis hk hFc hb hdw
  have hS2 : va_S A s.heap t.heap (locs ++ L) := ⟨Nat.le_trans hS.1 hz, fun q h1 h2 => by rw [hk q (Nat.lt_of_lt_of_le h1 hS.1) (fun z => h2 (hFc q z))]; exact hS.2.1 q h1 h2, fun q hq => (List.mem_append.mp hq).elim (hS.2.2 q) (fun h => hFc _ (hL q h))⟩
  obtain ⟨t2, a1, b1⟩ := kk v w hpo t.heap (locs ++ L) ls hP2 hD2 hS2 hl T' e1 X'
  exact ⟨t2, stp t2 a1, b1⟩
theorem x_callV (C : Cx p s m args meth c E A nL cc own) {y : MethodName} {bytes : ByteArray} {maxL n index : Nat} {rm : Room} {As rest : List Value} {wc wr : va_W} {post : Option Value → va_W → Prop} {ret : Option FieldType} {b ci N q0 : Nat} {Cn : String} {T : u_T} {fs : List Value} (he : wc[q0]? = some (b, .inr (ci, fs))) (hc : vwCl[ci]? = some (Cn, T, N)) (hw : CWV own index Cn y) (hd : decode cc pc = .ok (.invokevirtual index, 3)) (hp : pc + 3 = pc') (hM : MC l E y bytes maxL ret rm (.ref b :: As) wc post) (hm : MM y bytes maxL ret n) (hstk : st = As.reverse ++ .ref b :: rest) (hlen : As.length = n) (hcat : (rest.map fun v => v.category).sum ≤ 8) (isC isR : List Nat) (hC : isC.map (fun i => ws[i]?) = wc.map some) (hR : isR.map (fun i => ws[i]?) = wr.map some) (hnC : va_nd isC = true) (hn : va_nd isR = true) (hdis : ∀ i ∈ isR, i ∉ isC) (hR1 : rm.frames + 1 ≤ R.frames ∧ 8 + (maxL + 11) + rm.locals ≤ R.locals) (hcs : cells + rm.cells ≤ R.cells ∧ slots + rm.slots ≤ R.slots) (kk : ∀ (v : Option Value) (w : va_W), post v w → Wx p l e R s m args below meth c E A nL (cells + rm.cells) (slots + rm.slots) Q pc' lv (v.toList ++ rest) (wr ++ w)) : Wx p l e R s m args below meth c E A nL cells slots Q pc (lv) (st) (ws) := by
  obtain ⟨hx, hb, hml, hown, hts, hK, hA, hlk⟩ := id C
  refine x_behind (a := (Value.ref b :: As).toArray) C isC isR hC hR hnC hn hdis hp (fun H locs ls hPc hDc hsz => ?_) kk
  exact va_runV (As := As) (rest := rest) (b := b) (C := Cn) ⟨hx, hb, hml, hown, hts⟩ (hM H.size) (cwV n hts (show GoodIn gt (wsV own index Cn y (.code y bytes maxL ret :: gt)) from good_app hw.1 (good_cons hm.1)) rfl rfl rfl ⟨hw.2, hm.2.1, hm.2.2.1, hm.2.2.2⟩ hR1) ⟨PX.blind, va_recv hK.1 hPc hc he, fun U hU hW => ⟨rfl, by rw [hU], by rw [hU]; exact hPc, hK.moved hW, hDc.weaken (fun _ _ _ _ => trivial)⟩⟩ rfl hlen hsz hstk (lv_room hcat) hd hcs
theorem x_callU (C : Cx p s m args meth c E A nL cc own) {y : MethodName} {bytes : ByteArray} {maxL n index : Nat} {rm : Room} {As rest : List Value} {wc wr : va_W} {post : Option Value → va_W → Prop} {ret : Option FieldType} {b ci N q0 : Nat} {Cn : String} {T : u_T} {fs : List Value} (he : wc[q0]? = some (b, .inr (ci, fs))) (hc : vwCl[ci]? = some (Cn, T, N)) {x : MethodName} {owner : String} (hw : CWU own index Cn owner x y n) (hd : decode cc pc = .ok (.invokevirtual index, 3)) (hp : pc + 3 = pc') (hM : MC l E y bytes maxL ret rm (.ref b :: As) wc post) (hm : MM y bytes maxL ret n) (hstk : st = As.reverse ++ .ref b :: rest) (hlen : As.length = n) (hcat : (rest.map fun v => v.category).sum ≤ 8) (isC isR : List Nat) (hC : isC.map (fun i => ws[i]?) = wc.map some) (hR : isR.map (fun i => ws[i]?) = wr.map some) (hnC : va_nd isC = true) (hn : va_nd isR = true) (hdis : ∀ i ∈ isR, i ∉ isC) (hR1 : rm.frames + 1 ≤ R.frames ∧ 8 + (maxL + 11) + rm.locals ≤ R.locals) (hcs : cells + rm.cells ≤ R.cells ∧ slots + rm.slots ≤ R.slots) (kk : ∀ (v : Option Value) (w : va_W), post v w → Wx p l e R s m args below meth c E A nL (cells + rm.cells) (slots + rm.slots) Q pc' lv (v.toList ++ rest) (wr ++ w)) : Wx p l e R s m args below meth c E A nL cells slots Q pc (lv) (st) (ws) := by
  obtain ⟨hx, hb, hml, hown, hts, hK, hA, hlk⟩ := id C
  refine x_behind (a := (Value.ref b :: As).toArray) C isC isR hC hR hnC hn hdis hp (fun H locs ls hPc hDc hsz => ?_) kk
  obtain ⟨hw1, hw2, hw3, hw4, hw5⟩ := hw
  have hcu : va_CU R s args own Cn owner index x y bytes maxL ret (.code y bytes maxL ret :: gt) rm rm.cells rm.slots n := by
    rcases hw2 with hw2 | ⟨b0, m0, r0, h0, h1⟩ | hw2
    · exact va_cwU n hts (show GoodIn gt (va_wsU own index Cn owner x y (.code y bytes maxL ret :: gt)) from good_app hw1 (good_cons hm.1)) rfl rfl rfl hw2 ⟨hw3, hw4, hw5⟩ hR1
    · refine va_cwO n hts (show GoodIn gt (va_wsO own index Cn owner x y (.code y bytes maxL ret :: gt)) from good_app ?_ (good_cons hm.1)) rfl rfl rfl h0 ⟨hw3, hw4, hw5⟩ hR1
      intro w hwm
      simp only [List.mem_cons, List.not_mem_nil, or_false] at hwm
      rcases hwm with rfl | rfl | rfl | rfl | rfl | rfl
      · exact hw1 _ (by simp)
      · exact hw1 _ (by simp)
      · exact h1
      · exact hw1 _ (by simp)
      · exact hw1 _ (by simp)
      · exact hw1 _ (by simp)
    · exact va_cwA n hts (show GoodIn gt (va_wsU own index Cn owner x y (.code y bytes maxL ret :: gt)) from good_app hw1 (good_cons hm.1)) rfl rfl rfl (hK.2.1 _ hw2) ⟨hw3, hw4, hw5⟩ hR1
  exact va_runU (As := As) (rest := rest) (b := b) (C := Cn) ⟨hx, hb, hml, hown, hts⟩ (hM H.size) hcu ⟨PX.blind, va_recv hK.1 hPc hc he, fun U hU hW => ⟨rfl, by rw [hU], by rw [hU]; exact hPc, hK.moved hW, hDc.weaken (fun _ _ _ _ => trivial)⟩⟩ rfl hlen hsz hstk (lv_room hcat) hd hcs
theorem x_callS (C : Cx p s m args meth c E A nL cc own) {y : MethodName} {bytes : ByteArray} {maxL n index : Nat} {rm : Room} {As rest : List Value} {wc wr : va_W} {post : Option Value → va_W → Prop} {ret : Option FieldType} (hw : CWS own index y) (hd : decode cc pc = .ok (.invokestatic index, 3)) (hp : pc + 3 = pc') (hM : MC l E y bytes maxL ret rm (As) wc post) (hm : MM y bytes maxL ret n) (hstk : st = As.reverse ++ rest) (hlen : As.length = n) (hcat : (rest.map fun v => v.category).sum ≤ 8) (isC isR : List Nat) (hC : isC.map (fun i => ws[i]?) = wc.map some) (hR : isR.map (fun i => ws[i]?) = wr.map some) (hnC : va_nd isC = true) (hn : va_nd isR = true) (hdis : ∀ i ∈ isR, i ∉ isC) (hR1 : rm.frames + 1 ≤ R.frames ∧ 8 + (maxL + 11) + rm.locals ≤ R.locals) (hcs : cells + rm.cells ≤ R.cells ∧ slots + rm.slots ≤ R.slots) (kk : ∀ (v : Option Value) (w : va_W), post v w → Wx p l e R s m args below meth c E A nL (cells + rm.cells) (slots + rm.slots) Q pc' lv (v.toList ++ rest) (wr ++ w)) : Wx p l e R s m args below meth c E A nL cells slots Q pc (lv) (st) (ws) := by
  obtain ⟨hx, hb, hml, hown, hts, hK, hA, hlk⟩ := id C
  refine x_behind (a := (As).toArray) C isC isR hC hR hnC hn hdis hp (fun H locs ls hPc hDc hsz => ?_) kk
  exact va_runS (As := As) (rest := rest) ⟨hx, hb, hml, hown, hts⟩ (hM H.size) (va_cwS n hts (show GoodIn gt (va_wsS own index y (.code y bytes maxL ret :: gt)) from good_app hw (good_cons hm.1)) rfl rfl rfl ⟨hm.2.1, hm.2.2.1, hm.2.2.2⟩ hR1) ⟨PX.blind, fun U hU hW => ⟨rfl, by rw [hU], by rw [hU]; exact hPc, hK.moved hW, hDc.weaken (fun _ _ _ _ => trivial)⟩⟩ rfl hlen hsz hstk (lv_room hcat) hd hcs
theorem x_callN (C : Cx p s m args meth c E A nL cc own) {y : MethodName} {bytes : ByteArray} {maxL n index : Nat} {rm : Room} {As rest : List Value} {wc wr : va_W} {post : Option Value → va_W → Prop} {ret : Option FieldType} (hw : CWN own index y) (hd : decode cc pc = .ok (.invokestatic index, 3)) (hp : pc + 3 = pc') (hM : MC l E y bytes maxL ret rm (As) wc post) (hm : MM y bytes maxL ret n) (hstk : st = As.reverse ++ rest) (hlen : As.length = n) (hcat : (rest.map fun v => v.category).sum ≤ 8) (isC isR : List Nat) (hC : isC.map (fun i => ws[i]?) = wc.map some) (hR : isR.map (fun i => ws[i]?) = wr.map some) (hnC : va_nd isC = true) (hn : va_nd isR = true) (hdis : ∀ i ∈ isR, i ∉ isC) (hR1 : rm.frames + 1 ≤ R.frames ∧ 8 + (maxL + 11) + rm.locals ≤ R.locals) (hcs : cells + rm.cells ≤ R.cells ∧ slots + rm.slots ≤ R.slots) (kk : ∀ (v : Option Value) (w : va_W), post v w → Wx p l e R s m args below meth c E A nL (cells + rm.cells) (slots + rm.slots) Q pc' lv (v.toList ++ rest) (wr ++ w)) : Wx p l e R s m args below meth c E A nL cells slots Q pc (lv) (st) (ws) := by
  obtain ⟨hx, hb, hml, hown, hts, hK, hA, hlk⟩ := id C
  refine x_behind (a := (As).toArray) C isC isR hC hR hnC hn hdis hp (fun H locs ls hPc hDc hsz => ?_) kk
  obtain ⟨⟨host, hw1⟩, hw2⟩ := hw
  exact va_runSN (As := As) (rest := rest) ⟨hx, hb, hml, hown, hts⟩ (hM H.size) ⟨va_cnB (host := host) n hts (fun w h => ⟨good_cons hm.1 w h, gt_good (good_cons hm.1 w h)⟩) rfl rfl rfl (hK.2.1 _ hw1) (hts _ (hw2 _ (by simp))) ⟨hm.2.1, hm.2.2.1, hm.2.2.2⟩ hR1, hts _ (hw2 _ (by simp)), trivial⟩ ⟨PX.blind, fun U hU hW => ⟨rfl, by rw [hU], by rw [hU]; exact hPc, hK.moved hW, hDc.weaken (fun _ _ _ _ => trivial)⟩⟩ rfl hlen hsz hstk (lv_room hcat) hd hcs
theorem x_callI (C : Cx p s m args meth c E A nL cc own) {y : MethodName} {bytes : ByteArray} {maxL n index : Nat} {rm : Room} {As rest : List Value} {wc wr : va_W} {post : Option Value → va_W → Prop} {b : Nat} (hw : CWI own index y) (hd : decode cc pc = .ok (.invokespecial index, 3)) (hp : pc + 3 = pc') (hM : MC l E y bytes maxL none rm (.ref b :: As) wc post) (hm : MM y bytes maxL none n) (hstk : st = As.reverse ++ .ref b :: rest) (hlen : As.length = n) (hcat : (rest.map fun v => v.category).sum ≤ 8) (isC isR : List Nat) (hC : isC.map (fun i => ws[i]?) = wc.map some) (hR : isR.map (fun i => ws[i]?) = wr.map some) (hnC : va_nd isC = true) (hn : va_nd isR = true) (hdis : ∀ i ∈ isR, i ∉ isC) (hR1 : rm.frames + 1 ≤ R.frames ∧ 8 + (maxL + 11) + rm.locals ≤ R.locals) (hcs : cells + rm.cells ≤ R.cells ∧ slots + rm.slots ≤ R.slots) (kk : ∀ (v : Option Value) (w : va_W), post v w → Wx p l e R s m args below meth c E A nL (cells + rm.cells) (slots + rm.slots) Q pc' lv (v.toList ++ rest) (wr ++ w)) : Wx p l e R s m args below meth c E A nL cells slots Q pc (lv) (st) (ws) := by
  obtain ⟨hx, hb, hml, hown, hts, hK, hA, hlk⟩ := id C
  refine x_behind (a := (Value.ref b :: As).toArray) C isC isR hC hR hnC hn hdis hp (fun H locs ls hPc hDc hsz => ?_) kk
  obtain ⟨hw1, hw2, hw3⟩ := hw
  rcases hw1 with hw1 | ⟨host, hw1⟩
  · exact va_runI (As := As) (rest := rest) (b := b) ⟨hx, hb, hml, hown, hts⟩ (hM H.size) (cwI n hts (fun w h => ⟨good_cons hm.1 w h, gt_good (good_cons hm.1 w h)⟩) rfl rfl rfl (hts _ (hw2 _ (by simp))) (hts _ hw1) (hts _ (hw2 _ (by simp))) hw3 ⟨hm.2.1, hm.2.2.1, hm.2.2.2⟩ hR1) ⟨PX.blind, fun U hU hW => ⟨rfl, by rw [hU], by rw [hU]; exact hPc, hK.moved hW, hDc.weaken (fun _ _ _ _ => trivial)⟩⟩ rfl hlen hsz hstk (lv_room hcat) hd hcs
  · exact va_runIN (As := As) (rest := rest) (b := b) ⟨hx, hb, hml, hown, hts⟩ (hM H.size) ⟨va_cnB (host := host) n hts (fun w h => ⟨good_cons hm.1 w h, gt_good (good_cons hm.1 w h)⟩) rfl rfl rfl (hK.2.1 _ hw1) (hts _ (hw2 _ (by simp))) ⟨hm.2.1, hm.2.2.1, hm.2.2.2⟩ hR1, hw3, hts _ (hw2 _ (by simp))⟩ ⟨PX.blind, fun U hU hW => ⟨rfl, by rw [hU], by rw [hU]; exact hPc, hK.moved hW, hDc.weaken (fun _ _ _ _ => trivial)⟩⟩ rfl hlen hsz hstk (lv_room hcat) hd hcs
end XR
