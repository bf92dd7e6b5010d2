set_option maxHeartbeats 4000000 in
set_option maxRecDepth 100000 in
theorem c_X11_mix (l : Launch) (E : EV) (x : Int) (y : Int)  : MC l E yX11_mix cX11_mix 4 (some .long) ({ frames := 0, cells := 0, slots := 0, locals := 0 }) [.long (lI x), .long (lI y)] [] (fun v_ w_ => v_ = some (.long (lI (mx x y))) ∧ w_ = []) := by
  refine MC.of (by decide +kernel) (Nat.le_of_ble_eq_true rfl) ?_
  intro p_ e_ s_ m_ args_ below_ meth_ c_ A_ C hr hnm
  have C : Cx p_ s_ m_ args_ meth_ c_ E A_ 4 cX11_mix RX11 := C
  show Wx _ _ _ _ _ _ _ _ _ _ _ _ _ _ _ _ 0 [(0, .long (lI x)), (2, .long (lI y))] [] []
  refine x_ldc2 (pc' := 3) (z := 31) C dX11_mix_0 rfl kc_X11_271 rfl ?_
  refine x_lload_n (pc' := 4) C 0 dX11_mix_3 rfl rfl ?_
  refine x_lmul (pc' := 5) C dX11_mix_4 rfl ?_
  refine x_lload_n (pc' := 6) C 1 dX11_mix_5 rfl rfl ?_
  refine x_ladd (pc' := 7) C dX11_mix_6 rfl ?_
  refine x_top (b := .long (lI (mx x y))) (rfl) ?_
  exact x_lret C hr dX11_mix_7 ⟨rfl, rfl⟩

set_option maxHeartbeats 4000000 in
set_option maxRecDepth 100000 in
theorem c_X11_holds (l : Launch) (E : EV) (S : Nat) (pp : Nat) (hS : S < 2147483648) (hp : pp < 32) : MC l E yX11_holds cX11_holds 2 (some .boolean) ({ frames := 0, cells := 0, slots := 0, locals := 0 }) [.int (iI (S : Int)), .int (iI (pp : Int))] [] (fun v_ w_ => v_ = some (.int (iI (bI (S.testBit pp = true)))) ∧ w_ = []) := by
  refine MC.of (by decide +kernel) (Nat.le_of_ble_eq_true rfl) ?_
  intro p_ e_ s_ m_ args_ below_ meth_ c_ A_ C hr hnm
  have C : Cx p_ s_ m_ args_ meth_ c_ E A_ 2 cX11_holds RX11 := C
  show Wx _ _ _ _ _ _ _ _ _ _ _ _ _ _ _ _ 0 [(0, .int (iI (S : Int))), (1, .int (iI (pp : Int)))] [] []
  refine x_iload_n (pc' := 1) C 0 dX11_holds_0 rfl rfl ?_
  refine x_iload_n (pc' := 2) C 1 dX11_holds_1 rfl rfl ?_
  refine x_ishr (pc' := 3) (z := (iI ((S / 2 ^ pp : Nat) : Int))) C dX11_holds_2 rfl (bt_shr hS hp) ?_
  refine x_iconst (pc' := 4) C dX11_holds_3 rfl ?_
  refine x_iand (pc' := 5) (z := (iI (bI (S.testBit pp = true)))) C dX11_holds_4 rfl (bt_bit) ?_
  refine x_if_eq (pc' := 8) (tgt := 12) C dX11_holds_5 rfl (by decide) (bI_rng) (fun c5 => ?_) (fun c5 => ?_)
  ·
    replace c5 := bI_z c5
    refine x_iconst (pc' := 13) C dX11_holds_12 rfl ?_
    refine x_top (b := .int (iI (bI (S.testBit pp = true)))) (by first | rw [bI_t c5] | rw [bI_f c5]) ?_
    exact x_zret C (nar_bI) hr dX11_holds_13 ⟨rfl, rfl⟩
  ·
    replace c5 := bI_nz c5
    refine x_iconst (pc' := 9) C dX11_holds_8 rfl ?_
    refine x_goto (tgt := 13) C dX11_holds_9 (by decide) ?_
    refine x_top (b := .int (iI (bI (S.testBit pp = true)))) (by first | rw [bI_t c5] | rw [bI_f c5]) ?_
    exact x_zret C (nar_bI) hr dX11_holds_13 ⟨rfl, rfl⟩

set_option maxHeartbeats 4000000 in
set_option maxRecDepth 100000 in
theorem c_X6_isFull (l : Launch) (E : EV) (h : Nat) (ha : Nat) (hb : Nat) (n : Nat) (len : Nat) (f : Nat → Int) (hn : n < 1000000) (hl : len < 1000000) : MC l E yX6_isFull cX6_isFull 1 (some .boolean) ({ frames := 0, cells := 0, slots := 0, locals := 0 }) [.ref h] [(h, ob 5 [.ref ha, .ref hb, .int (iI (n : Int))]), (ha, ia E len f)] (fun v_ w_ => v_ = some (.int (iI (bI (len ≤ n)))) ∧ w_ = [(h, ob 5 [.ref ha, .ref hb, .int (iI (n : Int))]), (ha, ia E len f)]) := by
  refine MC.of (by decide +kernel) (Nat.le_of_ble_eq_true rfl) ?_
  intro p_ e_ s_ m_ args_ below_ meth_ c_ A_ C hr hnm
  have C : Cx p_ s_ m_ args_ meth_ c_ E A_ 1 cX6_isFull RX6 := C
  show Wx _ _ _ _ _ _ _ _ _ _ _ _ _ _ _ _ 0 [(0, .ref h)] [] [(h, ob 5 [.ref ha, .ref hb, .int (iI (n : Int))]), (ha, ia E len f)]
  refine x_aload_n (pc' := 1) C 0 dX6_isFull_0 rfl rfl ?_
  refine x_get (pc' := 4) C dX6_isFull_1 rfl ff_X6_16_5 0 rfl rfl ?_
  refine x_aload_n (pc' := 5) C 0 dX6_isFull_4 rfl rfl ?_
  refine x_get (pc' := 8) C dX6_isFull_5 rfl ff_X6_7_5 0 rfl rfl ?_
  refine x_alen (pc' := 9) C dX6_isFull_8 rfl 1 0 rfl rfl ?_
  refine x_top (b := .int (iI (len : Int))) rfl ?_
  refine x_icmp_lt (pc' := 12) (tgt := 16) C dX6_isFull_9 rfl (by decide) (by omega) (by omega) (fun c9 => ?_) (fun c9 => ?_)
  ·
    refine x_iconst (pc' := 17) C dX6_isFull_16 rfl ?_
    refine x_top (b := .int (iI (bI (len ≤ n)))) (by first | rfl | rw [bI_t (by omega)] | rw [bI_f (by omega)]) ?_
    exact x_zret C (nar_bI) hr dX6_isFull_17 ⟨rfl, rfl⟩
  ·
    refine x_iconst (pc' := 13) C dX6_isFull_12 rfl ?_
    refine x_goto (tgt := 17) C dX6_isFull_13 (by decide) ?_
    refine x_top (b := .int (iI (bI (len ≤ n)))) (by first | rfl | rw [bI_t (by omega)] | rw [bI_f (by omega)]) ?_
    exact x_zret C (nar_bI) hr dX6_isFull_17 ⟨rfl, rfl⟩

set_option maxHeartbeats 4000000 in
set_option maxRecDepth 100000 in
theorem c_X6_has (l : Launch) (E : EV) (h : Nat) (ha : Nat) (hb : Nat) (n : Nat) (i : Int) (hn : n < 1000000) (hi : -2147483648 ≤ i ∧ i < 2147483648) : MC l E yX6_has cX6_has 2 (some .boolean) ({ frames := 0, cells := 0, slots := 0, locals := 0 }) [.ref h, .int (iI i)] [(h, ob 5 [.ref ha, .ref hb, .int (iI (n : Int))])] (fun v_ w_ => v_ = some (.int (iI (bI (0 ≤ i ∧ i < (n : Int))))) ∧ w_ = [(h, ob 5 [.ref ha, .ref hb, .int (iI (n : Int))])]) := by
  refine MC.of (by decide +kernel) (Nat.le_of_ble_eq_true rfl) ?_
  intro p_ e_ s_ m_ args_ below_ meth_ c_ A_ C hr hnm
  have C : Cx p_ s_ m_ args_ meth_ c_ E A_ 2 cX6_has RX6 := C
  show Wx _ _ _ _ _ _ _ _ _ _ _ _ _ _ _ _ 0 [(0, .ref h), (1, .int (iI i))] [] [(h, ob 5 [.ref ha, .ref hb, .int (iI (n : Int))])]
  refine x_iload_n (pc' := 1) C 1 dX6_has_0 rfl rfl ?_
  refine x_if_lt (pc' := 4) (tgt := 16) C dX6_has_1 rfl (by decide) (by omega) (fun c1 => ?_) (fun c1 => ?_)
  ·
    refine x_iconst (pc' := 17) C dX6_has_16 rfl ?_
    refine x_top (b := .int (iI (bI (0 ≤ i ∧ i < (n : Int))))) (by first | rfl | rw [bI_t (by omega)] | rw [bI_f (by omega)]) ?_
    exact x_zret C (nar_bI) hr dX6_has_17 ⟨rfl, rfl⟩
  ·
    refine x_iload_n (pc' := 5) C 1 dX6_has_4 rfl rfl ?_
    refine x_aload_n (pc' := 6) C 0 dX6_has_5 rfl rfl ?_
    refine x_get (pc' := 9) C dX6_has_6 rfl ff_X6_16_5 0 rfl rfl ?_
    refine x_icmp_ge (pc' := 12) (tgt := 16) C dX6_has_9 rfl (by decide) (by omega) (by omega) (fun c9 => ?_) (fun c9 => ?_)
    ·
      refine x_iconst (pc' := 17) C dX6_has_16 rfl ?_
      refine x_top (b := .int (iI (bI (0 ≤ i ∧ i < (n : Int))))) (by first | rfl | rw [bI_t (by omega)] | rw [bI_f (by omega)]) ?_
      exact x_zret C (nar_bI) hr dX6_has_17 ⟨rfl, rfl⟩
    ·
      refine x_iconst (pc' := 13) C dX6_has_12 rfl ?_
      refine x_goto (tgt := 17) C dX6_has_13 (by decide) ?_
      refine x_top (b := .int (iI (bI (0 ≤ i ∧ i < (n : Int))))) (by first | rfl | rw [bI_t (by omega)] | rw [bI_f (by omega)]) ?_
      exact x_zret C (nar_bI) hr dX6_has_17 ⟨rfl, rfl⟩

set_option maxHeartbeats 4000000 in
set_option maxRecDepth 100000 in
theorem c_X6_all (l : Launch) (E : EV) (h : Nat) (ha : Nat) (hb : Nat) (n : Nat) (hn : n < 31) : MC l E yX6_all cX6_all 1 (some .int) ({ frames := 0, cells := 0, slots := 0, locals := 0 }) [.ref h] [(h, ob 5 [.ref ha, .ref hb, .int (iI (n : Int))])] (fun v_ w_ => v_ = some (.int (iI ((2 ^ n - 1 : Nat) : Int))) ∧ w_ = [(h, ob 5 [.ref ha, .ref hb, .int (iI (n : Int))])]) := by
  refine MC.of (by decide +kernel) (Nat.le_of_ble_eq_true rfl) ?_
  intro p_ e_ s_ m_ args_ below_ meth_ c_ A_ C hr hnm
  have C : Cx p_ s_ m_ args_ meth_ c_ E A_ 1 cX6_all RX6 := C
  show Wx _ _ _ _ _ _ _ _ _ _ _ _ _ _ _ _ 0 [(0, .ref h)] [] [(h, ob 5 [.ref ha, .ref hb, .int (iI (n : Int))])]
  refine x_iconst (pc' := 1) C dX6_all_0 rfl ?_
  refine x_aload_n (pc' := 2) C 0 dX6_all_1 rfl rfl ?_
  refine x_get (pc' := 5) C dX6_all_2 rfl ff_X6_16_5 0 rfl rfl ?_
  refine x_ishl (pc' := 6) (z := (iI ((2 ^ n : Nat) : Int))) C dX6_all_5 rfl (bt_shl hn) ?_
  refine x_iconst (pc' := 7) C dX6_all_6 rfl ?_
  refine x_isub (pc' := 8) C dX6_all_7 rfl ?_
  refine x_top (b := .int (iI ((2 ^ n - 1 : Nat) : Int))) (by have := Nat.two_pow_pos n; congr 2; omega) ?_
  exact x_iret C hr dX6_all_8 ⟨rfl, rfl⟩

set_option maxHeartbeats 4000000 in
set_option maxRecDepth 100000 in
theorem c_X6_setLine (l : Launch) (E : EV) (h : Nat) (ha : Nat) (hb : Nat) (n : Nat) (j : Nat) (len : Nat) (x : Int) (y : Int) (f : Nat → Int) (g : Nat → Int) (hl : len < 1000000) (hj : j < len) : MC l E yX6_setLine cX6_setLine 4 (none) ({ frames := 0, cells := 0, slots := 0, locals := 0 }) [.ref h, .int (iI (j : Int)), .int (iI x), .int (iI y)] [(h, ob 5 [.ref ha, .ref hb, .int (iI (n : Int))]), (ha, ia E len f), (hb, ia E len g)] (fun v_ w_ => v_ = none ∧ w_ = [(h, ob 5 [.ref ha, .ref hb, .int (iI (n : Int))]), (ha, ia E len (va_up f j x)), (hb, ia E len (va_up g j y))]) := by
  refine MC.of (by decide +kernel) (Nat.le_of_ble_eq_true rfl) ?_
  intro p_ e_ s_ m_ args_ below_ meth_ c_ A_ C hr hnm
  have C : Cx p_ s_ m_ args_ meth_ c_ E A_ 4 cX6_setLine RX6 := C
  show Wx _ _ _ _ _ _ _ _ _ _ _ _ _ _ _ _ 0 [(0, .ref h), (1, .int (iI (j : Int))), (2, .int (iI x)), (3, .int (iI y))] [] [(h, ob 5 [.ref ha, .ref hb, .int (iI (n : Int))]), (ha, ia E len f), (hb, ia E len g)]
  refine x_iload_n (pc' := 1) C 1 dX6_setLine_0 rfl rfl ?_
  refine x_if_lt (pc' := 4) (tgt := 13) C dX6_setLine_1 rfl (by decide) (by omega) (fun c1 => ?_) (fun c1 => ?_)
  ·
    exact absurd c1 (by omega)
  ·
    refine x_iload_n (pc' := 5) C 1 dX6_setLine_4 rfl rfl ?_
    refine x_aload_n (pc' := 6) C 0 dX6_setLine_5 rfl rfl ?_
    refine x_get (pc' := 9) C dX6_setLine_6 rfl ff_X6_7_5 0 rfl rfl ?_
    refine x_alen (pc' := 10) C dX6_setLine_9 rfl 1 0 rfl rfl ?_
    refine x_top (b := .int (iI (len : Int))) rfl ?_
    refine x_icmp_lt (pc' := 13) (tgt := 14) C dX6_setLine_10 rfl (by decide) (by omega) (by omega) (fun c10 => ?_) (fun c10 => ?_)
    ·
      refine x_aload_n (pc' := 15) C 0 dX6_setLine_14 rfl rfl ?_
      refine x_get (pc' := 18) C dX6_setLine_15 rfl ff_X6_7_5 0 rfl rfl ?_
      refine x_iload_n (pc' := 19) C 1 dX6_setLine_18 rfl rfl ?_
      refine x_iload_n (pc' := 20) C 2 dX6_setLine_19 rfl rfl ?_
      refine x_iast (pc' := 21) (ws' := [(h, ob 5 [.ref ha, .ref hb, .int (iI (n : Int))]), (ha, ia E len (va_up f j x)), (hb, ia E len g)]) C j dX6_setLine_20 rfl 1 rfl (by omega) (by omega) (by omega) rfl ?_
      refine x_aload_n (pc' := 22) C 0 dX6_setLine_21 rfl rfl ?_
      refine x_get (pc' := 25) C dX6_setLine_22 rfl ff_X6_13_5 0 rfl rfl ?_
      refine x_iload_n (pc' := 26) C 1 dX6_setLine_25 rfl rfl ?_
      refine x_iload_n (pc' := 27) C 3 dX6_setLine_26 rfl rfl ?_
      refine x_iast (pc' := 28) (ws' := [(h, ob 5 [.ref ha, .ref hb, .int (iI (n : Int))]), (ha, ia E len (va_up f j x)), (hb, ia E len (va_up g j y))]) C j dX6_setLine_27 rfl 2 rfl (by omega) (by omega) (by omega) rfl ?_
      exact x_vret C hr dX6_setLine_28 ⟨rfl, rfl⟩
    ·
      exact absurd c10 (by omega)

set_option maxHeartbeats 4000000 in
set_option maxRecDepth 100000 in
theorem c_X6_appendLine (l : Launch) (E : EV) (h : Nat) (ha : Nat) (hb : Nat) (n : Nat) (len : Nat) (x : Int) (y : Int) (f : Nat → Int) (g : Nat → Int) (hl : len < 1000000) (hj : n < len) : MC l E yX6_appendLine cX6_appendLine 3 (some .int) ({ frames := 1, cells := 0, slots := 0, locals := 23 }) [.ref h, .int (iI x), .int (iI y)] [(h, ob 5 [.ref ha, .ref hb, .int (iI (n : Int))]), (ha, ia E len f), (hb, ia E len g)] (fun v_ w_ => v_ = some (.int (iI (n : Int))) ∧ w_ = [(h, ob 5 [.ref ha, .ref hb, .int (iI ((n + 1 : Nat) : Int))]), (ha, ia E len (va_up f n x)), (hb, ia E len (va_up g n y))]) := by
  refine MC.of (by decide +kernel) (Nat.le_of_ble_eq_true rfl) ?_
  intro p_ e_ s_ m_ args_ below_ meth_ c_ A_ C hr hnm
  have C : Cx p_ s_ m_ args_ meth_ c_ E A_ 3 cX6_appendLine RX6 := C
  show Wx _ _ _ _ _ _ _ _ _ _ _ _ _ _ _ _ 0 [(0, .ref h), (1, .int (iI x)), (2, .int (iI y))] [] [(h, ob 5 [.ref ha, .ref hb, .int (iI (n : Int))]), (ha, ia E len f), (hb, ia E len g)]
  refine x_aload_n (pc' := 1) C 0 dX6_appendLine_0 rfl rfl ?_
  refine x_aload_n (pc' := 2) C 0 dX6_appendLine_1 rfl rfl ?_
  refine x_get (pc' := 5) C dX6_appendLine_2 rfl ff_X6_16_5 0 rfl rfl ?_
  refine x_iload_n (pc' := 6) C 1 dX6_appendLine_5 rfl rfl ?_
  refine x_iload_n (pc' := 7) C 2 dX6_appendLine_6 rfl rfl ?_
  refine x_callV (pc' := 10) (As := [.int (iI (n : Int)), .int (iI x), .int (iI y)]) (rest := []) (q0 := 0) C rfl rfl cv_X6_20_X6 dX6_appendLine_7 rfl (c_X6_setLine l E h ha hb n n len x y f g (show len < 1000000 from by omega) (show n < len from by omega)) mm_X6_setLine (hstk := rfl) (hlen := rfl) (hcat := Nat.le_of_ble_eq_true rfl) (isC := [0, 1, 2]) (isR := []) (wr := []) (hC := rfl) (hR := rfl) (hnC := rfl) (hn := rfl) (hdis := by decide) (hR1 := ⟨Nat.le_of_ble_eq_true rfl, Nat.le_of_ble_eq_true rfl⟩) (hcs := ⟨Nat.le_of_ble_eq_true rfl, Nat.le_of_ble_eq_true rfl⟩) (fun v_ w_ hp_ => ?_)
  obtain ⟨rfl, rfl⟩ := hp_
  show Wx _ _ _ _ _ _ _ _ _ _ _ _ _ _ _ _ 10 [(0, .ref h), (1, .int (iI x)), (2, .int (iI y))] [] [(h, ob 5 [.ref ha, .ref hb, .int (iI (n : Int))]), (ha, ia E len (va_up f n x)), (hb, ia E len (va_up g n y))]
  refine x_aload_n (pc' := 11) C 0 dX6_appendLine_10 rfl rfl ?_
  refine x_dup (pc' := 12) C dX6_appendLine_11 rfl rfl ?_
  refine x_get (pc' := 15) C dX6_appendLine_12 rfl ff_X6_16_5 0 rfl rfl ?_
  refine x_dup_x1 (pc' := 16) C dX6_appendLine_15 rfl rfl rfl ?_
  refine x_iconst (pc' := 17) C dX6_appendLine_16 rfl ?_
  refine x_iadd (pc' := 18) C dX6_appendLine_17 rfl ?_
  refine x_top (b := .int (iI ((n + 1 : Nat) : Int))) (rfl) ?_
  refine x_put (pc' := 21) (ws' := [(h, ob 5 [.ref ha, .ref hb, .int (iI ((n + 1 : Nat) : Int))]), (ha, ia E len (va_up f n x)), (hb, ia E len (va_up g n y))]) C dX6_appendLine_18 rfl pf_X6_16_5 0 rfl rfl rfl (Nat.le_of_ble_eq_true rfl) rfl ?_
  exact x_iret C hr dX6_appendLine_21 ⟨rfl, rfl⟩

set_option maxHeartbeats 4000000 in
set_option maxRecDepth 100000 in
theorem c_X6_mixLine (l : Launch) (E : EV) (h : Nat) (ha : Nat) (hb : Nat) (n : Nat) (j : Nat) (len : Nat) (z : Int) (f : Nat → Int) (g : Nat → Int) (hl : len < 1000000) (hj : j < len) (hF : -100 ≤ f j ∧ f j ≤ 100) (hG : -100 ≤ g j ∧ g j ≤ 100) : MC l E yX6_mixLine cX6_mixLine 4 (some .long) ({ frames := 1, cells := 0, slots := 0, locals := 23 }) [.ref h, .long (lI z), .int (iI (j : Int))] [(h, ob 5 [.ref ha, .ref hb, .int (iI (n : Int))]), (ha, ia E len f), (hb, ia E len g)] (fun v_ w_ => v_ = some (.long (lI (mx (mx z (f j)) (g j)))) ∧ w_ = [(h, ob 5 [.ref ha, .ref hb, .int (iI (n : Int))]), (ha, ia E len f), (hb, ia E len g)]) := by
  refine MC.of (by decide +kernel) (Nat.le_of_ble_eq_true rfl) ?_
  intro p_ e_ s_ m_ args_ below_ meth_ c_ A_ C hr hnm
  have C : Cx p_ s_ m_ args_ meth_ c_ E A_ 4 cX6_mixLine RX6 := C
  show Wx _ _ _ _ _ _ _ _ _ _ _ _ _ _ _ _ 0 [(0, .ref h), (1, .long (lI z)), (3, .int (iI (j : Int)))] [] [(h, ob 5 [.ref ha, .ref hb, .int (iI (n : Int))]), (ha, ia E len f), (hb, ia E len g)]
  refine x_lload_n (pc' := 1) C 1 dX6_mixLine_0 rfl rfl ?_
  refine x_aload_n (pc' := 2) C 0 dX6_mixLine_1 rfl rfl ?_
  refine x_get (pc' := 5) C dX6_mixLine_2 rfl ff_X6_7_5 0 rfl rfl ?_
  refine x_iload_n (pc' := 6) C 2 dX6_mixLine_5 rfl rfl ?_
  refine x_iald (pc' := 7) C j dX6_mixLine_6 rfl 1 rfl (by omega) (by omega) (by omega) ?_
  refine x_i2l (pc' := 8) C dX6_mixLine_7 rfl (by omega) ?_
  refine x_callN (pc' := 11) (As := [.long (lI z), .long (lI (f j))]) (rest := []) C cn_X6_24 dX6_mixLine_8 rfl (c_X11_mix l E z (f j) ) mm_X11_mix (hstk := rfl) (hlen := rfl) (hcat := Nat.le_of_ble_eq_true rfl) (isC := []) (isR := [0, 1, 2]) (wr := [(h, ob 5 [.ref ha, .ref hb, .int (iI (n : Int))]), (ha, ia E len f), (hb, ia E len g)]) (hC := rfl) (hR := rfl) (hnC := rfl) (hn := rfl) (hdis := by decide) (hR1 := ⟨Nat.le_of_ble_eq_true rfl, Nat.le_of_ble_eq_true rfl⟩) (hcs := ⟨Nat.le_of_ble_eq_true rfl, Nat.le_of_ble_eq_true rfl⟩) (fun v_ w_ hp_ => ?_)
  obtain ⟨rfl, rfl⟩ := hp_
  show Wx _ _ _ _ _ _ _ _ _ _ _ _ _ _ _ _ 11 [(0, .ref h), (1, .long (lI z)), (3, .int (iI (j : Int)))] [.long (lI (mx z (f j)))] [(h, ob 5 [.ref ha, .ref hb, .int (iI (n : Int))]), (ha, ia E len f), (hb, ia E len g)]
  refine x_aload_n (pc' := 12) C 0 dX6_mixLine_11 rfl rfl ?_
  refine x_get (pc' := 15) C dX6_mixLine_12 rfl ff_X6_13_5 0 rfl rfl ?_
  refine x_iload_n (pc' := 16) C 2 dX6_mixLine_15 rfl rfl ?_
  refine x_iald (pc' := 17) C j dX6_mixLine_16 rfl 2 rfl (by omega) (by omega) (by omega) ?_
  refine x_i2l (pc' := 18) C dX6_mixLine_17 rfl (by omega) ?_
  refine x_callN (pc' := 21) (As := [.long (lI (mx z (f j))), .long (lI (g j))]) (rest := []) C cn_X6_24 dX6_mixLine_18 rfl (c_X11_mix l E (mx z (f j)) (g j) ) mm_X11_mix (hstk := rfl) (hlen := rfl) (hcat := Nat.le_of_ble_eq_true rfl) (isC := []) (isR := [0, 1, 2]) (wr := [(h, ob 5 [.ref ha, .ref hb, .int (iI (n : Int))]), (ha, ia E len f), (hb, ia E len g)]) (hC := rfl) (hR := rfl) (hnC := rfl) (hn := rfl) (hdis := by decide) (hR1 := ⟨Nat.le_of_ble_eq_true rfl, Nat.le_of_ble_eq_true rfl⟩) (hcs := ⟨Nat.le_of_ble_eq_true rfl, Nat.le_of_ble_eq_true rfl⟩) (fun v_ w_ hp_ => ?_)
  obtain ⟨rfl, rfl⟩ := hp_
  show Wx _ _ _ _ _ _ _ _ _ _ _ _ _ _ _ _ 21 [(0, .ref h), (1, .long (lI z)), (3, .int (iI (j : Int)))] [.long (lI (mx (mx z (f j)) (g j)))] [(h, ob 5 [.ref ha, .ref hb, .int (iI (n : Int))]), (ha, ia E len f), (hb, ia E len g)]
  exact x_lret C hr dX6_mixLine_21 ⟨rfl, rfl⟩

set_option maxHeartbeats 4000000 in
set_option maxRecDepth 100000 in
theorem c_X6_isFull_L (l : Launch) (E : EV) (h : Nat) (ha : Nat) (hb : Nat) (hf : Nat) (ht : Nat) (n : Nat) (len : Nat) (f : Nat → Int) (hn : n < 1000000) (hl : len < 1000000) : MC l E yX6_isFull cX6_isFull 1 (some .boolean) ({ frames := 0, cells := 0, slots := 0, locals := 0 }) [.ref h] [(h, ob 2 [.ref ha, .ref hb, .int (iI (n : Int)), .ref hf, .ref ht]), (ha, ia E len f)] (fun v_ w_ => v_ = some (.int (iI (bI (len ≤ n)))) ∧ w_ = [(h, ob 2 [.ref ha, .ref hb, .int (iI (n : Int)), .ref hf, .ref ht]), (ha, ia E len f)]) := by
  refine MC.of (by decide +kernel) (Nat.le_of_ble_eq_true rfl) ?_
  intro p_ e_ s_ m_ args_ below_ meth_ c_ A_ C hr hnm
  have C : Cx p_ s_ m_ args_ meth_ c_ E A_ 1 cX6_isFull RX6 := C
  show Wx _ _ _ _ _ _ _ _ _ _ _ _ _ _ _ _ 0 [(0, .ref h)] [] [(h, ob 2 [.ref ha, .ref hb, .int (iI (n : Int)), .ref hf, .ref ht]), (ha, ia E len f)]
  refine x_aload_n (pc' := 1) C 0 dX6_isFull_0 rfl rfl ?_
  refine x_get (pc' := 4) C dX6_isFull_1 rfl ff_X6_16_2 0 rfl rfl ?_
  refine x_aload_n (pc' := 5) C 0 dX6_isFull_4 rfl rfl ?_
  refine x_get (pc' := 8) C dX6_isFull_5 rfl ff_X6_7_2 0 rfl rfl ?_
  refine x_alen (pc' := 9) C dX6_isFull_8 rfl 1 0 rfl rfl ?_
  refine x_top (b := .int (iI (len : Int))) rfl ?_
  refine x_icmp_lt (pc' := 12) (tgt := 16) C dX6_isFull_9 rfl (by decide) (by omega) (by omega) (fun c9 => ?_) (fun c9 => ?_)
  ·
    refine x_iconst (pc' := 17) C dX6_isFull_16 rfl ?_
    refine x_top (b := .int (iI (bI (len ≤ n)))) (by first | rfl | rw [bI_t (by omega)] | rw [bI_f (by omega)]) ?_
    exact x_zret C (nar_bI) hr dX6_isFull_17 ⟨rfl, rfl⟩
  ·
    refine x_iconst (pc' := 13) C dX6_isFull_12 rfl ?_
    refine x_goto (tgt := 17) C dX6_isFull_13 (by decide) ?_
    refine x_top (b := .int (iI (bI (len ≤ n)))) (by first | rfl | rw [bI_t (by omega)] | rw [bI_f (by omega)]) ?_
    exact x_zret C (nar_bI) hr dX6_isFull_17 ⟨rfl, rfl⟩

set_option maxHeartbeats 4000000 in
set_option maxRecDepth 100000 in
theorem c_X6_has_L (l : Launch) (E : EV) (h : Nat) (ha : Nat) (hb : Nat) (hf : Nat) (ht : Nat) (n : Nat) (i : Int) (hn : n < 1000000) (hi : -2147483648 ≤ i ∧ i < 2147483648) : MC l E yX6_has cX6_has 2 (some .boolean) ({ frames := 0, cells := 0, slots := 0, locals := 0 }) [.ref h, .int (iI i)] [(h, ob 2 [.ref ha, .ref hb, .int (iI (n : Int)), .ref hf, .ref ht])] (fun v_ w_ => v_ = some (.int (iI (bI (0 ≤ i ∧ i < (n : Int))))) ∧ w_ = [(h, ob 2 [.ref ha, .ref hb, .int (iI (n : Int)), .ref hf, .ref ht])]) := by
  refine MC.of (by decide +kernel) (Nat.le_of_ble_eq_true rfl) ?_
  intro p_ e_ s_ m_ args_ below_ meth_ c_ A_ C hr hnm
  have C : Cx p_ s_ m_ args_ meth_ c_ E A_ 2 cX6_has RX6 := C
  show Wx _ _ _ _ _ _ _ _ _ _ _ _ _ _ _ _ 0 [(0, .ref h), (1, .int (iI i))] [] [(h, ob 2 [.ref ha, .ref hb, .int (iI (n : Int)), .ref hf, .ref ht])]
  refine x_iload_n (pc' := 1) C 1 dX6_has_0 rfl rfl ?_
  refine x_if_lt (pc' := 4) (tgt := 16) C dX6_has_1 rfl (by decide) (by omega) (fun c1 => ?_) (fun c1 => ?_)
  ·
    refine x_iconst (pc' := 17) C dX6_has_16 rfl ?_
    refine x_top (b := .int (iI (bI (0 ≤ i ∧ i < (n : Int))))) (by first | rfl | rw [bI_t (by omega)] | rw [bI_f (by omega)]) ?_
    exact x_zret C (nar_bI) hr dX6_has_17 ⟨rfl, rfl⟩
  ·
    refine x_iload_n (pc' := 5) C 1 dX6_has_4 rfl rfl ?_
    refine x_aload_n (pc' := 6) C 0 dX6_has_5 rfl rfl ?_
    refine x_get (pc' := 9) C dX6_has_6 rfl ff_X6_16_2 0 rfl rfl ?_
    refine x_icmp_ge (pc' := 12) (tgt := 16) C dX6_has_9 rfl (by decide) (by omega) (by omega) (fun c9 => ?_) (fun c9 => ?_)
    ·
      refine x_iconst (pc' := 17) C dX6_has_16 rfl ?_
      refine x_top (b := .int (iI (bI (0 ≤ i ∧ i < (n : Int))))) (by first | rfl | rw [bI_t (by omega)] | rw [bI_f (by omega)]) ?_
      exact x_zret C (nar_bI) hr dX6_has_17 ⟨rfl, rfl⟩
    ·
      refine x_iconst (pc' := 13) C dX6_has_12 rfl ?_
      refine x_goto (tgt := 17) C dX6_has_13 (by decide) ?_
      refine x_top (b := .int (iI (bI (0 ≤ i ∧ i < (n : Int))))) (by first | rfl | rw [bI_t (by omega)] | rw [bI_f (by omega)]) ?_
      exact x_zret C (nar_bI) hr dX6_has_17 ⟨rfl, rfl⟩

set_option maxHeartbeats 4000000 in
set_option maxRecDepth 100000 in
theorem c_X6_all_L (l : Launch) (E : EV) (h : Nat) (ha : Nat) (hb : Nat) (hf : Nat) (ht : Nat) (n : Nat) (hn : n < 31) : MC l E yX6_all cX6_all 1 (some .int) ({ frames := 0, cells := 0, slots := 0, locals := 0 }) [.ref h] [(h, ob 2 [.ref ha, .ref hb, .int (iI (n : Int)), .ref hf, .ref ht])] (fun v_ w_ => v_ = some (.int (iI ((2 ^ n - 1 : Nat) : Int))) ∧ w_ = [(h, ob 2 [.ref ha, .ref hb, .int (iI (n : Int)), .ref hf, .ref ht])]) := by
  refine MC.of (by decide +kernel) (Nat.le_of_ble_eq_true rfl) ?_
  intro p_ e_ s_ m_ args_ below_ meth_ c_ A_ C hr hnm
  have C : Cx p_ s_ m_ args_ meth_ c_ E A_ 1 cX6_all RX6 := C
  show Wx _ _ _ _ _ _ _ _ _ _ _ _ _ _ _ _ 0 [(0, .ref h)] [] [(h, ob 2 [.ref ha, .ref hb, .int (iI (n : Int)), .ref hf, .ref ht])]
  refine x_iconst (pc' := 1) C dX6_all_0 rfl ?_
  refine x_aload_n (pc' := 2) C 0 dX6_all_1 rfl rfl ?_
  refine x_get (pc' := 5) C dX6_all_2 rfl ff_X6_16_2 0 rfl rfl ?_
  refine x_ishl (pc' := 6) (z := (iI ((2 ^ n : Nat) : Int))) C dX6_all_5 rfl (bt_shl hn) ?_
  refine x_iconst (pc' := 7) C dX6_all_6 rfl ?_
  refine x_isub (pc' := 8) C dX6_all_7 rfl ?_
  refine x_top (b := .int (iI ((2 ^ n - 1 : Nat) : Int))) (by have := Nat.two_pow_pos n; congr 2; omega) ?_
  exact x_iret C hr dX6_all_8 ⟨rfl, rfl⟩

set_option maxHeartbeats 4000000 in
set_option maxRecDepth 100000 in
theorem c_X6_setLine_L (l : Launch) (E : EV) (h : Nat) (ha : Nat) (hb : Nat) (hf : Nat) (ht : Nat) (n : Nat) (j : Nat) (len : Nat) (x : Int) (y : Int) (f : Nat → Int) (g : Nat → Int) (hl : len < 1000000) (hj : j < len) : MC l E yX6_setLine cX6_setLine 4 (none) ({ frames := 0, cells := 0, slots := 0, locals := 0 }) [.ref h, .int (iI (j : Int)), .int (iI x), .int (iI y)] [(h, ob 2 [.ref ha, .ref hb, .int (iI (n : Int)), .ref hf, .ref ht]), (ha, ia E len f), (hb, ia E len g)] (fun v_ w_ => v_ = none ∧ w_ = [(h, ob 2 [.ref ha, .ref hb, .int (iI (n : Int)), .ref hf, .ref ht]), (ha, ia E len (va_up f j x)), (hb, ia E len (va_up g j y))]) := by
  refine MC.of (by decide +kernel) (Nat.le_of_ble_eq_true rfl) ?_
  intro p_ e_ s_ m_ args_ below_ meth_ c_ A_ C hr hnm
  have C : Cx p_ s_ m_ args_ meth_ c_ E A_ 4 cX6_setLine RX6 := C
  show Wx _ _ _ _ _ _ _ _ _ _ _ _ _ _ _ _ 0 [(0, .ref h), (1, .int (iI (j : Int))), (2, .int (iI x)), (3, .int (iI y))] [] [(h, ob 2 [.ref ha, .ref hb, .int (iI (n : Int)), .ref hf, .ref ht]), (ha, ia E len f), (hb, ia E len g)]
  refine x_iload_n (pc' := 1) C 1 dX6_setLine_0 rfl rfl ?_
  refine x_if_lt (pc' := 4) (tgt := 13) C dX6_setLine_1 rfl (by decide) (by omega) (fun c1 => ?_) (fun c1 => ?_)
  ·
    exact absurd c1 (by omega)
  ·
    refine x_iload_n (pc' := 5) C 1 dX6_setLine_4 rfl rfl ?_
    refine x_aload_n (pc' := 6) C 0 dX6_setLine_5 rfl rfl ?_
    refine x_get (pc' := 9) C dX6_setLine_6 rfl ff_X6_7_2 0 rfl rfl ?_
    refine x_alen (pc' := 10) C dX6_setLine_9 rfl 1 0 rfl rfl ?_
    refine x_top (b := .int (iI (len : Int))) rfl ?_
    refine x_icmp_lt (pc' := 13) (tgt := 14) C dX6_setLine_10 rfl (by decide) (by omega) (by omega) (fun c10 => ?_) (fun c10 => ?_)
    ·
      refine x_aload_n (pc' := 15) C 0 dX6_setLine_14 rfl rfl ?_
      refine x_get (pc' := 18) C dX6_setLine_15 rfl ff_X6_7_2 0 rfl rfl ?_
      refine x_iload_n (pc' := 19) C 1 dX6_setLine_18 rfl rfl ?_
      refine x_iload_n (pc' := 20) C 2 dX6_setLine_19 rfl rfl ?_
      refine x_iast (pc' := 21) (ws' := [(h, ob 2 [.ref ha, .ref hb, .int (iI (n : Int)), .ref hf, .ref ht]), (ha, ia E len (va_up f j x)), (hb, ia E len g)]) C j dX6_setLine_20 rfl 1 rfl (by omega) (by omega) (by omega) rfl ?_
      refine x_aload_n (pc' := 22) C 0 dX6_setLine_21 rfl rfl ?_
      refine x_get (pc' := 25) C dX6_setLine_22 rfl ff_X6_13_2 0 rfl rfl ?_
      refine x_iload_n (pc' := 26) C 1 dX6_setLine_25 rfl rfl ?_
      refine x_iload_n (pc' := 27) C 3 dX6_setLine_26 rfl rfl ?_
      refine x_iast (pc' := 28) (ws' := [(h, ob 2 [.ref ha, .ref hb, .int (iI (n : Int)), .ref hf, .ref ht]), (ha, ia E len (va_up f j x)), (hb, ia E len (va_up g j y))]) C j dX6_setLine_27 rfl 2 rfl (by omega) (by omega) (by omega) rfl ?_
      exact x_vret C hr dX6_setLine_28 ⟨rfl, rfl⟩
    ·
      exact absurd c10 (by omega)

set_option maxHeartbeats 4000000 in
set_option maxRecDepth 100000 in
theorem c_X6_appendLine_L (l : Launch) (E : EV) (h : Nat) (ha : Nat) (hb : Nat) (hf : Nat) (ht : Nat) (n : Nat) (len : Nat) (x : Int) (y : Int) (f : Nat → Int) (g : Nat → Int) (hl : len < 1000000) (hj : n < len) : MC l E yX6_appendLine cX6_appendLine 3 (some .int) ({ frames := 1, cells := 0, slots := 0, locals := 23 }) [.ref h, .int (iI x), .int (iI y)] [(h, ob 2 [.ref ha, .ref hb, .int (iI (n : Int)), .ref hf, .ref ht]), (ha, ia E len f), (hb, ia E len g)] (fun v_ w_ => v_ = some (.int (iI (n : Int))) ∧ w_ = [(h, ob 2 [.ref ha, .ref hb, .int (iI ((n + 1 : Nat) : Int)), .ref hf, .ref ht]), (ha, ia E len (va_up f n x)), (hb, ia E len (va_up g n y))]) := by
  refine MC.of (by decide +kernel) (Nat.le_of_ble_eq_true rfl) ?_
  intro p_ e_ s_ m_ args_ below_ meth_ c_ A_ C hr hnm
  have C : Cx p_ s_ m_ args_ meth_ c_ E A_ 3 cX6_appendLine RX6 := C
  show Wx _ _ _ _ _ _ _ _ _ _ _ _ _ _ _ _ 0 [(0, .ref h), (1, .int (iI x)), (2, .int (iI y))] [] [(h, ob 2 [.ref ha, .ref hb, .int (iI (n : Int)), .ref hf, .ref ht]), (ha, ia E len f), (hb, ia E len g)]
  refine x_aload_n (pc' := 1) C 0 dX6_appendLine_0 rfl rfl ?_
  refine x_aload_n (pc' := 2) C 0 dX6_appendLine_1 rfl rfl ?_
  refine x_get (pc' := 5) C dX6_appendLine_2 rfl ff_X6_16_2 0 rfl rfl ?_
  refine x_iload_n (pc' := 6) C 1 dX6_appendLine_5 rfl rfl ?_
  refine x_iload_n (pc' := 7) C 2 dX6_appendLine_6 rfl rfl ?_
  refine x_callU (pc' := 10) (As := [.int (iI (n : Int)), .int (iI x), .int (iI y)]) (rest := []) (q0 := 0) C rfl rfl cu_X6_20_X3 dX6_appendLine_7 rfl (c_X6_setLine_L l E h ha hb hf ht n n len x y f g (show len < 1000000 from by omega) (show n < len from by omega)) mm_X6_setLine (hstk := rfl) (hlen := rfl) (hcat := Nat.le_of_ble_eq_true rfl) (isC := [0, 1, 2]) (isR := []) (wr := []) (hC := rfl) (hR := rfl) (hnC := rfl) (hn := rfl) (hdis := by decide) (hR1 := ⟨Nat.le_of_ble_eq_true rfl, Nat.le_of_ble_eq_true rfl⟩) (hcs := ⟨Nat.le_of_ble_eq_true rfl, Nat.le_of_ble_eq_true rfl⟩) (fun v_ w_ hp_ => ?_)
  obtain ⟨rfl, rfl⟩ := hp_
  show Wx _ _ _ _ _ _ _ _ _ _ _ _ _ _ _ _ 10 [(0, .ref h), (1, .int (iI x)), (2, .int (iI y))] [] [(h, ob 2 [.ref ha, .ref hb, .int (iI (n : Int)), .ref hf, .ref ht]), (ha, ia E len (va_up f n x)), (hb, ia E len (va_up g n y))]
  refine x_aload_n (pc' := 11) C 0 dX6_appendLine_10 rfl rfl ?_
  refine x_dup (pc' := 12) C dX6_appendLine_11 rfl rfl ?_
  refine x_get (pc' := 15) C dX6_appendLine_12 rfl ff_X6_16_2 0 rfl rfl ?_
  refine x_dup_x1 (pc' := 16) C dX6_appendLine_15 rfl rfl rfl ?_
  refine x_iconst (pc' := 17) C dX6_appendLine_16 rfl ?_
  refine x_iadd (pc' := 18) C dX6_appendLine_17 rfl ?_
  refine x_top (b := .int (iI ((n + 1 : Nat) : Int))) (rfl) ?_
  refine x_put (pc' := 21) (ws' := [(h, ob 2 [.ref ha, .ref hb, .int (iI ((n + 1 : Nat) : Int)), .ref hf, .ref ht]), (ha, ia E len (va_up f n x)), (hb, ia E len (va_up g n y))]) C dX6_appendLine_18 rfl pf_X6_16_2 0 rfl rfl rfl (Nat.le_of_ble_eq_true rfl) rfl ?_
  exact x_iret C hr dX6_appendLine_21 ⟨rfl, rfl⟩

set_option maxHeartbeats 4000000 in
set_option maxRecDepth 100000 in
theorem c_X6_mixLine_L (l : Launch) (E : EV) (h : Nat) (ha : Nat) (hb : Nat) (hf : Nat) (ht : Nat) (n : Nat) (j : Nat) (len : Nat) (z : Int) (f : Nat → Int) (g : Nat → Int) (hl : len < 1000000) (hj : j < len) (hF : -100 ≤ f j ∧ f j ≤ 100) (hG : -100 ≤ g j ∧ g j ≤ 100) : MC l E yX6_mixLine cX6_mixLine 4 (some .long) ({ frames := 1, cells := 0, slots := 0, locals := 23 }) [.ref h, .long (lI z), .int (iI (j : Int))] [(h, ob 2 [.ref ha, .ref hb, .int (iI (n : Int)), .ref hf, .ref ht]), (ha, ia E len f), (hb, ia E len g)] (fun v_ w_ => v_ = some (.long (lI (mx (mx z (f j)) (g j)))) ∧ w_ = [(h, ob 2 [.ref ha, .ref hb, .int (iI (n : Int)), .ref hf, .ref ht]), (ha, ia E len f), (hb, ia E len g)]) := by
  refine MC.of (by decide +kernel) (Nat.le_of_ble_eq_true rfl) ?_
  intro p_ e_ s_ m_ args_ below_ meth_ c_ A_ C hr hnm
  have C : Cx p_ s_ m_ args_ meth_ c_ E A_ 4 cX6_mixLine RX6 := C
  show Wx _ _ _ _ _ _ _ _ _ _ _ _ _ _ _ _ 0 [(0, .ref h), (1, .long (lI z)), (3, .int (iI (j : Int)))] [] [(h, ob 2 [.ref ha, .ref hb, .int (iI (n : Int)), .ref hf, .ref ht]), (ha, ia E len f), (hb, ia E len g)]
  refine x_lload_n (pc' := 1) C 1 dX6_mixLine_0 rfl rfl ?_
  refine x_aload_n (pc' := 2) C 0 dX6_mixLine_1 rfl rfl ?_
  refine x_get (pc' := 5) C dX6_mixLine_2 rfl ff_X6_7_2 0 rfl rfl ?_
  refine x_iload_n (pc' := 6) C 2 dX6_mixLine_5 rfl rfl ?_
  refine x_iald (pc' := 7) C j dX6_mixLine_6 rfl 1 rfl (by omega) (by omega) (by omega) ?_
  refine x_i2l (pc' := 8) C dX6_mixLine_7 rfl (by omega) ?_
  refine x_callN (pc' := 11) (As := [.long (lI z), .long (lI (f j))]) (rest := []) C cn_X6_24 dX6_mixLine_8 rfl (c_X11_mix l E z (f j) ) mm_X11_mix (hstk := rfl) (hlen := rfl) (hcat := Nat.le_of_ble_eq_true rfl) (isC := []) (isR := [0, 1, 2]) (wr := [(h, ob 2 [.ref ha, .ref hb, .int (iI (n : Int)), .ref hf, .ref ht]), (ha, ia E len f), (hb, ia E len g)]) (hC := rfl) (hR := rfl) (hnC := rfl) (hn := rfl) (hdis := by decide) (hR1 := ⟨Nat.le_of_ble_eq_true rfl, Nat.le_of_ble_eq_true rfl⟩) (hcs := ⟨Nat.le_of_ble_eq_true rfl, Nat.le_of_ble_eq_true rfl⟩) (fun v_ w_ hp_ => ?_)
  obtain ⟨rfl, rfl⟩ := hp_
  show Wx _ _ _ _ _ _ _ _ _ _ _ _ _ _ _ _ 11 [(0, .ref h), (1, .long (lI z)), (3, .int (iI (j : Int)))] [.long (lI (mx z (f j)))] [(h, ob 2 [.ref ha, .ref hb, .int (iI (n : Int)), .ref hf, .ref ht]), (ha, ia E len f), (hb, ia E len g)]
  refine x_aload_n (pc' := 12) C 0 dX6_mixLine_11 rfl rfl ?_
  refine x_get (pc' := 15) C dX6_mixLine_12 rfl ff_X6_13_2 0 rfl rfl ?_
  refine x_iload_n (pc' := 16) C 2 dX6_mixLine_15 rfl rfl ?_
  refine x_iald (pc' := 17) C j dX6_mixLine_16 rfl 2 rfl (by omega) (by omega) (by omega) ?_
  refine x_i2l (pc' := 18) C dX6_mixLine_17 rfl (by omega) ?_
  refine x_callN (pc' := 21) (As := [.long (lI (mx z (f j))), .long (lI (g j))]) (rest := []) C cn_X6_24 dX6_mixLine_18 rfl (c_X11_mix l E (mx z (f j)) (g j) ) mm_X11_mix (hstk := rfl) (hlen := rfl) (hcat := Nat.le_of_ble_eq_true rfl) (isC := []) (isR := [0, 1, 2]) (wr := [(h, ob 2 [.ref ha, .ref hb, .int (iI (n : Int)), .ref hf, .ref ht]), (ha, ia E len f), (hb, ia E len g)]) (hC := rfl) (hR := rfl) (hnC := rfl) (hn := rfl) (hdis := by decide) (hR1 := ⟨Nat.le_of_ble_eq_true rfl, Nat.le_of_ble_eq_true rfl⟩) (hcs := ⟨Nat.le_of_ble_eq_true rfl, Nat.le_of_ble_eq_true rfl⟩) (fun v_ w_ hp_ => ?_)
  obtain ⟨rfl, rfl⟩ := hp_
  show Wx _ _ _ _ _ _ _ _ _ _ _ _ _ _ _ _ 21 [(0, .ref h), (1, .long (lI z)), (3, .int (iI (j : Int)))] [.long (lI (mx (mx z (f j)) (g j)))] [(h, ob 2 [.ref ha, .ref hb, .int (iI (n : Int)), .ref hf, .ref ht]), (ha, ia E len f), (hb, ia E len g)]
  exact x_lret C hr dX6_mixLine_21 ⟨rfl, rfl⟩

set_option maxHeartbeats 4000000 in
set_option maxRecDepth 100000 in
theorem c_X3_appendLink (l : Launch) (E : EV) (h : Nat) (ha : Nat) (hb : Nat) (hf : Nat) (ht : Nat) (n : Nat) (u : Int) (v : Int) (x : Int) (y : Int) (fa : Nat → Int) (fb : Nat → Int) (ff : Nat → Int) (ft : Nat → Int) (hj : n < 14) : MC l E yX3_appendLink cX3_appendLink 5 (some .int) ({ frames := 2, cells := 0, slots := 0, locals := 45 }) [.ref h, .int (iI u), .int (iI v), .int (iI x), .int (iI y)] [(h, ob 2 [.ref ha, .ref hb, .int (iI (n : Int)), .ref hf, .ref ht]), (ha, ia E 14 fa), (hb, ia E 14 fb), (hf, ia E 14 ff), (ht, ia E 14 ft)] (fun v_ w_ => v_ = some (.int (iI (n : Int))) ∧ w_ = [(h, ob 2 [.ref ha, .ref hb, .int (iI ((n + 1 : Nat) : Int)), .ref hf, .ref ht]), (ha, ia E 14 (va_up fa n x)), (hb, ia E 14 (va_up fb n y)), (hf, ia E 14 (va_up ff n u)), (ht, ia E 14 (va_up ft n v))]) := by
  refine MC.of (by decide +kernel) (Nat.le_of_ble_eq_true rfl) ?_
  intro p_ e_ s_ m_ args_ below_ meth_ c_ A_ C hr hnm
  have C : Cx p_ s_ m_ args_ meth_ c_ E A_ 5 cX3_appendLink RX3 := C
  show Wx _ _ _ _ _ _ _ _ _ _ _ _ _ _ _ _ 0 [(0, .ref h), (1, .int (iI u)), (2, .int (iI v)), (3, .int (iI x)), (4, .int (iI y))] [] [(h, ob 2 [.ref ha, .ref hb, .int (iI (n : Int)), .ref hf, .ref ht]), (ha, ia E 14 fa), (hb, ia E 14 fb), (hf, ia E 14 ff), (ht, ia E 14 ft)]
  refine x_aload_n (pc' := 1) C 0 dX3_appendLink_0 rfl rfl ?_
  refine x_callU (pc' := 4) (As := []) (rest := []) (q0 := 0) C rfl rfl cu_X3_18_X3 dX3_appendLink_1 rfl (c_X6_isFull_L l E h ha hb hf ht n 14 fa (show n < 1000000 from by omega) (show 14 < 1000000 from by omega)) mm_X6_isFull (hstk := rfl) (hlen := rfl) (hcat := Nat.le_of_ble_eq_true rfl) (isC := [0, 1]) (isR := [2, 3, 4]) (wr := [(hb, ia E 14 fb), (hf, ia E 14 ff), (ht, ia E 14 ft)]) (hC := rfl) (hR := rfl) (hnC := rfl) (hn := rfl) (hdis := by decide) (hR1 := ⟨Nat.le_of_ble_eq_true rfl, Nat.le_of_ble_eq_true rfl⟩) (hcs := ⟨Nat.le_of_ble_eq_true rfl, Nat.le_of_ble_eq_true rfl⟩) (fun v_ w_ hp_ => ?_)
  obtain ⟨rfl, rfl⟩ := hp_
  show Wx _ _ _ _ _ _ _ _ _ _ _ _ _ _ _ _ 4 [(0, .ref h), (1, .int (iI u)), (2, .int (iI v)), (3, .int (iI x)), (4, .int (iI y))] [.int (iI (bI (14 ≤ n)))] [(hb, ia E 14 fb), (hf, ia E 14 ff), (ht, ia E 14 ft), (h, ob 2 [.ref ha, .ref hb, .int (iI (n : Int)), .ref hf, .ref ht]), (ha, ia E 14 fa)]
  refine x_sub (ws' := [(h, ob 2 [.ref ha, .ref hb, .int (iI (n : Int)), .ref hf, .ref ht]), (ha, ia E 14 fa), (hb, ia E 14 fb), (hf, ia E 14 ff), (ht, ia E 14 ft)]) [3, 4, 0, 1, 2] rfl rfl ?_
  refine x_if_eq (pc' := 7) (tgt := 10) C dX3_appendLink_4 rfl (by decide) (bI_rng) (fun c4 => ?_) (fun c4 => ?_)
  ·
    replace c4 := bI_z c4
    refine x_aload_n (pc' := 11) C 0 dX3_appendLink_10 rfl rfl ?_
    refine x_get (pc' := 14) C dX3_appendLink_11 rfl ff_X3_11_2 0 rfl rfl ?_
    refine x_aload_n (pc' := 15) C 0 dX3_appendLink_14 rfl rfl ?_
    refine x_get (pc' := 18) C dX3_appendLink_15 rfl ff_X3_22_2 0 rfl rfl ?_
    refine x_iload_n (pc' := 19) C 1 dX3_appendLink_18 rfl rfl ?_
    refine x_iast (pc' := 20) (ws' := [(h, ob 2 [.ref ha, .ref hb, .int (iI (n : Int)), .ref hf, .ref ht]), (ha, ia E 14 fa), (hb, ia E 14 fb), (hf, ia E 14 (va_up ff n u)), (ht, ia E 14 ft)]) C n dX3_appendLink_19 rfl 3 rfl (by omega) (by omega) (by omega) rfl ?_
    refine x_aload_n (pc' := 21) C 0 dX3_appendLink_20 rfl rfl ?_
    refine x_get (pc' := 24) C dX3_appendLink_21 rfl ff_X3_15_2 0 rfl rfl ?_
    refine x_aload_n (pc' := 25) C 0 dX3_appendLink_24 rfl rfl ?_
    refine x_get (pc' := 28) C dX3_appendLink_25 rfl ff_X3_22_2 0 rfl rfl ?_
    refine x_iload_n (pc' := 29) C 2 dX3_appendLink_28 rfl rfl ?_
    refine x_iast (pc' := 30) (ws' := [(h, ob 2 [.ref ha, .ref hb, .int (iI (n : Int)), .ref hf, .ref ht]), (ha, ia E 14 fa), (hb, ia E 14 fb), (hf, ia E 14 (va_up ff n u)), (ht, ia E 14 (va_up ft n v))]) C n dX3_appendLink_29 rfl 4 rfl (by omega) (by omega) (by omega) rfl ?_
    refine x_aload_n (pc' := 31) C 0 dX3_appendLink_30 rfl rfl ?_
    refine x_iload_n (pc' := 32) C 3 dX3_appendLink_31 rfl rfl ?_
    refine x_iload (pc' := 34) C 4 dX3_appendLink_32 rfl rfl ?_
    refine x_callU (pc' := 37) (As := [.int (iI x), .int (iI y)]) (rest := []) (q0 := 0) C rfl rfl cu_X3_26_X3 dX3_appendLink_34 rfl (c_X6_appendLine_L l E h ha hb hf ht n 14 x y fa fb (show 14 < 1000000 from by omega) (show n < 14 from by omega)) mm_X6_appendLine (hstk := rfl) (hlen := rfl) (hcat := Nat.le_of_ble_eq_true rfl) (isC := [0, 1, 2]) (isR := [3, 4]) (wr := [(hf, ia E 14 (va_up ff n u)), (ht, ia E 14 (va_up ft n v))]) (hC := rfl) (hR := rfl) (hnC := rfl) (hn := rfl) (hdis := by decide) (hR1 := ⟨Nat.le_of_ble_eq_true rfl, Nat.le_of_ble_eq_true rfl⟩) (hcs := ⟨Nat.le_of_ble_eq_true rfl, Nat.le_of_ble_eq_true rfl⟩) (fun v_ w_ hp_ => ?_)
    obtain ⟨rfl, rfl⟩ := hp_
    show Wx _ _ _ _ _ _ _ _ _ _ _ _ _ _ _ _ 37 [(0, .ref h), (1, .int (iI u)), (2, .int (iI v)), (3, .int (iI x)), (4, .int (iI y))] [.int (iI (n : Int))] [(hf, ia E 14 (va_up ff n u)), (ht, ia E 14 (va_up ft n v)), (h, ob 2 [.ref ha, .ref hb, .int (iI ((n + 1 : Nat) : Int)), .ref hf, .ref ht]), (ha, ia E 14 (va_up fa n x)), (hb, ia E 14 (va_up fb n y))]
    refine x_sub (ws' := [(h, ob 2 [.ref ha, .ref hb, .int (iI ((n + 1 : Nat) : Int)), .ref hf, .ref ht]), (ha, ia E 14 (va_up fa n x)), (hb, ia E 14 (va_up fb n y)), (hf, ia E 14 (va_up ff n u)), (ht, ia E 14 (va_up ft n v))]) [2, 3, 4, 0, 1] rfl rfl ?_
    exact x_iret C hr dX3_appendLink_37 ⟨rfl, rfl⟩
  ·
    replace c4 := bI_nz c4
    exact absurd c4 (by omega)

set_option maxHeartbeats 4000000 in
set_option maxRecDepth 100000 in
theorem c_X3_mixLinks (l : Launch) (E : EV) (h : Nat) (ha : Nat) (hb : Nat) (hf : Nat) (ht : Nat) (n : Nat) (z : Int) (fa : Nat → Int) (fb : Nat → Int) (ff : Nat → Int) (ft : Nat → Int) (hj : n ≤ 14) (hA : ∀ j_ : Nat, j_ < n → -100 ≤ fa j_ ∧ fa j_ ≤ 100) (hB : ∀ j_ : Nat, j_ < n → -100 ≤ fb j_ ∧ fb j_ ≤ 100) (hF : ∀ j_ : Nat, j_ < n → 0 ≤ ff j_ ∧ ff j_ ≤ 5) (hT : ∀ j_ : Nat, j_ < n → 0 ≤ ft j_ ∧ ft j_ ≤ 5) : MC l E yX3_mixLinks cX3_mixLinks 4 (some .long) ({ frames := 2, cells := 0, slots := 0, locals := 46 }) [.ref h, .long (lI z)] [(h, ob 2 [.ref ha, .ref hb, .int (iI (n : Int)), .ref hf, .ref ht]), (ha, ia E 14 fa), (hb, ia E 14 fb), (hf, ia E 14 ff), (ht, ia E 14 ft)] (fun v_ w_ => v_ = some (.long (lI (mixL ff ft fa fb n z))) ∧ w_ = [(h, ob 2 [.ref ha, .ref hb, .int (iI (n : Int)), .ref hf, .ref ht]), (ha, ia E 14 fa), (hb, ia E 14 fb), (hf, ia E 14 ff), (ht, ia E 14 ft)]) := by
  refine MC.of (by decide +kernel) (Nat.le_of_ble_eq_true rfl) ?_
  intro p_ e_ s_ m_ args_ below_ meth_ c_ A_ C hr hnm
  have C : Cx p_ s_ m_ args_ meth_ c_ E A_ 4 cX3_mixLinks RX3 := C
  show Wx _ _ _ _ _ _ _ _ _ _ _ _ _ _ _ _ 0 [(0, .ref h), (1, .long (lI z))] [] [(h, ob 2 [.ref ha, .ref hb, .int (iI (n : Int)), .ref hf, .ref ht]), (ha, ia E 14 fa), (hb, ia E 14 fb), (hf, ia E 14 ff), (ht, ia E 14 ft)]
  refine x_iconst (pc' := 1) C dX3_mixLinks_0 rfl ?_
  refine x_istore_n (pc' := 2) (lv' := [(3, .int (iI 0)), (0, .ref h), (1, .long (lI z))]) C dX3_mixLinks_1 rfl (by decide) rfl ?_
  refine x_lv [1, 2, 0] rfl ?_
  refine x_loop (α := (Nat) × (Int)) (fun a_ => (a_.1 ≤ n) ∧ (a_.2 = mixL ff ft fa fb a_.1 z)) (fun a_ => n - a_.1) (fun a_ => [(0, .ref h), (1, .long (lI a_.2)), (3, .int (iI (a_.1 : Int)))]) (fun a_ => [(h, ob 2 [.ref ha, .ref hb, .int (iI (n : Int)), .ref hf, .ref ht]), (ha, ia E 14 fa), (hb, ia E 14 fb), (hf, ia E 14 ff), (ht, ia E 14 ft)]) ?_ (0, z) ?_
  · intro a_ hI_ ih2
    obtain ⟨i, y⟩ := a_
    obtain ⟨hi, hy⟩ := hI_
    replace hi : i ≤ n := hi
    replace hy : y = mixL ff ft fa fb i z := hy
    show Wx _ _ _ _ _ _ _ _ _ _ _ _ _ _ _ _ 2 [(0, .ref h), (1, .long (lI y)), (3, .int (iI (i : Int)))] [] [(h, ob 2 [.ref ha, .ref hb, .int (iI (n : Int)), .ref hf, .ref ht]), (ha, ia E 14 fa), (hb, ia E 14 fb), (hf, ia E 14 ff), (ht, ia E 14 ft)]
    refine x_iload_n (pc' := 3) C 2 dX3_mixLinks_2 rfl rfl ?_
    refine x_aload_n (pc' := 4) C 0 dX3_mixLinks_3 rfl rfl ?_
    refine x_get (pc' := 7) C dX3_mixLinks_4 rfl ff_X3_22_2 0 rfl rfl ?_
    refine x_icmp_ge (pc' := 10) (tgt := 43) C dX3_mixLinks_7 rfl (by decide) (by omega) (by omega) (fun c7 => ?_) (fun c7 => ?_)
    ·
      refine x_lload_n (pc' := 44) C 1 dX3_mixLinks_43 rfl rfl ?_
      refine x_top (b := .long (lI (mixL ff ft fa fb n z))) (by rw [hy, show i = n by omega]) ?_
      exact x_lret C hr dX3_mixLinks_44 ⟨rfl, rfl⟩
    ·
      refine x_aload_n (pc' := 11) C 0 dX3_mixLinks_10 rfl rfl ?_
      refine x_lload_n (pc' := 12) C 1 dX3_mixLinks_11 rfl rfl ?_
      refine x_aload_n (pc' := 13) C 0 dX3_mixLinks_12 rfl rfl ?_
      refine x_get (pc' := 16) C dX3_mixLinks_13 rfl ff_X3_11_2 0 rfl rfl ?_
      refine x_iload_n (pc' := 17) C 2 dX3_mixLinks_16 rfl rfl ?_
      refine x_iald (pc' := 18) C i dX3_mixLinks_17 rfl 3 rfl (by omega) (by omega) (by omega) ?_
      have el17 := hF i (by omega)
      refine x_i2l (pc' := 19) C dX3_mixLinks_18 rfl (by omega) ?_
      refine x_callN (pc' := 22) (As := [.long (lI y), .long (lI (ff i))]) (rest := [.ref h]) C cn_X3_30 dX3_mixLinks_19 rfl (c_X11_mix l E y (ff i) ) mm_X11_mix (hstk := rfl) (hlen := rfl) (hcat := Nat.le_of_ble_eq_true rfl) (isC := []) (isR := [0, 1, 2, 3, 4]) (wr := [(h, ob 2 [.ref ha, .ref hb, .int (iI (n : Int)), .ref hf, .ref ht]), (ha, ia E 14 fa), (hb, ia E 14 fb), (hf, ia E 14 ff), (ht, ia E 14 ft)]) (hC := rfl) (hR := rfl) (hnC := rfl) (hn := rfl) (hdis := by decide) (hR1 := ⟨Nat.le_of_ble_eq_true rfl, Nat.le_of_ble_eq_true rfl⟩) (hcs := ⟨Nat.le_of_ble_eq_true rfl, Nat.le_of_ble_eq_true rfl⟩) (fun v_ w_ hp_ => ?_)
      obtain ⟨rfl, rfl⟩ := hp_
      show Wx _ _ _ _ _ _ _ _ _ _ _ _ _ _ _ _ 22 [(0, .ref h), (1, .long (lI y)), (3, .int (iI (i : Int)))] [.long (lI (mx y (ff i))), .ref h] [(h, ob 2 [.ref ha, .ref hb, .int (iI (n : Int)), .ref hf, .ref ht]), (ha, ia E 14 fa), (hb, ia E 14 fb), (hf, ia E 14 ff), (ht, ia E 14 ft)]
      refine x_aload_n (pc' := 23) C 0 dX3_mixLinks_22 rfl rfl ?_
      refine x_get (pc' := 26) C dX3_mixLinks_23 rfl ff_X3_15_2 0 rfl rfl ?_
      refine x_iload_n (pc' := 27) C 2 dX3_mixLinks_26 rfl rfl ?_
      refine x_iald (pc' := 28) C i dX3_mixLinks_27 rfl 4 rfl (by omega) (by omega) (by omega) ?_
      have el27 := hT i (by omega)
      refine x_i2l (pc' := 29) C dX3_mixLinks_28 rfl (by omega) ?_
      refine x_callN (pc' := 32) (As := [.long (lI (mx y (ff i))), .long (lI (ft i))]) (rest := [.ref h]) C cn_X3_30 dX3_mixLinks_29 rfl (c_X11_mix l E (mx y (ff i)) (ft i) ) mm_X11_mix (hstk := rfl) (hlen := rfl) (hcat := Nat.le_of_ble_eq_true rfl) (isC := []) (isR := [0, 1, 2, 3, 4]) (wr := [(h, ob 2 [.ref ha, .ref hb, .int (iI (n : Int)), .ref hf, .ref ht]), (ha, ia E 14 fa), (hb, ia E 14 fb), (hf, ia E 14 ff), (ht, ia E 14 ft)]) (hC := rfl) (hR := rfl) (hnC := rfl) (hn := rfl) (hdis := by decide) (hR1 := ⟨Nat.le_of_ble_eq_true rfl, Nat.le_of_ble_eq_true rfl⟩) (hcs := ⟨Nat.le_of_ble_eq_true rfl, Nat.le_of_ble_eq_true rfl⟩) (fun v_ w_ hp_ => ?_)
      obtain ⟨rfl, rfl⟩ := hp_
      show Wx _ _ _ _ _ _ _ _ _ _ _ _ _ _ _ _ 32 [(0, .ref h), (1, .long (lI y)), (3, .int (iI (i : Int)))] [.long (lI (mx (mx y (ff i)) (ft i))), .ref h] [(h, ob 2 [.ref ha, .ref hb, .int (iI (n : Int)), .ref hf, .ref ht]), (ha, ia E 14 fa), (hb, ia E 14 fb), (hf, ia E 14 ff), (ht, ia E 14 ft)]
      refine x_iload_n (pc' := 33) C 2 dX3_mixLinks_32 rfl rfl ?_
      refine x_callU (pc' := 36) (As := [.long (lI (mx (mx y (ff i)) (ft i))), .int (iI (i : Int))]) (rest := []) (q0 := 0) C rfl rfl cu_X3_34_X3 dX3_mixLinks_33 rfl (c_X6_mixLine_L l E h ha hb hf ht n i 14 (mx (mx y (ff i)) (ft i)) fa fb (show 14 < 1000000 from by omega) (show i < 14 from by omega) (show -100 ≤ fa i ∧ fa i ≤ 100 from hA i (by omega)) (show -100 ≤ fb i ∧ fb i ≤ 100 from hB i (by omega))) mm_X6_mixLine (hstk := rfl) (hlen := rfl) (hcat := Nat.le_of_ble_eq_true rfl) (isC := [0, 1, 2]) (isR := [3, 4]) (wr := [(hf, ia E 14 ff), (ht, ia E 14 ft)]) (hC := rfl) (hR := rfl) (hnC := rfl) (hn := rfl) (hdis := by decide) (hR1 := ⟨Nat.le_of_ble_eq_true rfl, Nat.le_of_ble_eq_true rfl⟩) (hcs := ⟨Nat.le_of_ble_eq_true rfl, Nat.le_of_ble_eq_true rfl⟩) (fun v_ w_ hp_ => ?_)
      obtain ⟨rfl, rfl⟩ := hp_
      show Wx _ _ _ _ _ _ _ _ _ _ _ _ _ _ _ _ 36 [(0, .ref h), (1, .long (lI y)), (3, .int (iI (i : Int)))] [.long (lI (mx (mx (mx (mx y (ff i)) (ft i)) (fa i)) (fb i)))] [(hf, ia E 14 ff), (ht, ia E 14 ft), (h, ob 2 [.ref ha, .ref hb, .int (iI (n : Int)), .ref hf, .ref ht]), (ha, ia E 14 fa), (hb, ia E 14 fb)]
      refine x_sub (ws' := [(h, ob 2 [.ref ha, .ref hb, .int (iI (n : Int)), .ref hf, .ref ht]), (ha, ia E 14 fa), (hb, ia E 14 fb), (hf, ia E 14 ff), (ht, ia E 14 ft)]) [2, 3, 4, 0, 1] rfl rfl ?_
      refine x_lstore_n (pc' := 37) (lv' := [(1, .long (lI (mx (mx (mx (mx y (ff i)) (ft i)) (fa i)) (fb i)))), (0, .ref h), (3, .int (iI (i : Int)))]) C dX3_mixLinks_36 rfl (by decide) rfl ?_
      refine x_iinc (pc' := 40) (lv' := [(3, .int (iI ((i : Int) + 1))), (1, .long (lI (mx (mx (mx (mx y (ff i)) (ft i)) (fa i)) (fb i)))), (0, .ref h)]) C 2 dX3_mixLinks_37 rfl (by decide) rfl rfl ?_
      refine x_lvI (lv' := [(3, .int (iI ((i + 1 : Nat) : Int))), (1, .long (lI (mx (mx (mx (mx y (ff i)) (ft i)) (fa i)) (fb i)))), (0, .ref h)]) 0 rfl (by omega) rfl ?_
      refine x_goto (tgt := 2) C dX3_mixLinks_40 (by decide) ?_
      refine x_lv [2, 1, 0] rfl ?_
      exact ih2 ((i + 1), (mx (mx (mx (mx y (ff i)) (ft i)) (fa i)) (fb i))) ⟨(show (i + 1) ≤ n from by omega), (show (mx (mx (mx (mx y (ff i)) (ft i)) (fa i)) (fb i)) = mixL ff ft fa fb (i + 1) z from by rw [hy]; rfl)⟩ (show n - (i + 1) < n - i from by omega)
  · exact ⟨(show 0 ≤ n from by omega), (show z = mixL ff ft fa fb 0 z from rfl)⟩

set_option maxHeartbeats 4000000 in
set_option maxRecDepth 100000 in
theorem c_X4_appendThing (l : Launch) (E : EV) (h : Nat) (hp : Nat) (ha : Nat) (hb : Nat) (hw : Nat) (n : Nat) (s0 : Int) (sp : Int) (u : Int) (x : Int) (y : Int) (fa : Nat → Int) (fb : Nat → Int) (fw : Nat → Int) (hj : n < 8) : MC l E yX4_appendThing cX4_appendThing 4 (some .int) ({ frames := 2, cells := 0, slots := 0, locals := 45 }) [.ref h, .int (iI u), .int (iI x), .int (iI y)] [(h, ob 3 [.ref hp, .int (iI s0), .ref hw, .int (iI sp)]), (hp, ob 5 [.ref ha, .ref hb, .int (iI (n : Int))]), (ha, ia E 8 fa), (hb, ia E 8 fb), (hw, ia E 8 fw)] (fun v_ w_ => v_ = some (.int (iI (n : Int))) ∧ w_ = [(h, ob 3 [.ref hp, .int (iI s0), .ref hw, .int (iI sp)]), (hp, ob 5 [.ref ha, .ref hb, .int (iI ((n + 1 : Nat) : Int))]), (ha, ia E 8 (va_up fa n x)), (hb, ia E 8 (va_up fb n y)), (hw, ia E 8 (va_up fw n u))]) := by
  refine MC.of (by decide +kernel) (Nat.le_of_ble_eq_true rfl) ?_
  intro p_ e_ s_ m_ args_ below_ meth_ c_ A_ C hr hnm
  have C : Cx p_ s_ m_ args_ meth_ c_ E A_ 4 cX4_appendThing RX4 := C
  show Wx _ _ _ _ _ _ _ _ _ _ _ _ _ _ _ _ 0 [(0, .ref h), (1, .int (iI u)), (2, .int (iI x)), (3, .int (iI y))] [] [(h, ob 3 [.ref hp, .int (iI s0), .ref hw, .int (iI sp)]), (hp, ob 5 [.ref ha, .ref hb, .int (iI (n : Int))]), (ha, ia E 8 fa), (hb, ia E 8 fb), (hw, ia E 8 fw)]
  refine x_aload_n (pc' := 1) C 0 dX4_appendThing_0 rfl rfl ?_
  refine x_get (pc' := 4) C dX4_appendThing_1 rfl ff_X4_24_3 0 rfl rfl ?_
  refine x_callV (pc' := 7) (As := []) (rest := []) (q0 := 0) C rfl rfl cv_X4_28_X6 dX4_appendThing_4 rfl (c_X6_isFull l E hp ha hb n 8 fa (show n < 1000000 from by omega) (show 8 < 1000000 from by omega)) mm_X6_isFull (hstk := rfl) (hlen := rfl) (hcat := Nat.le_of_ble_eq_true rfl) (isC := [1, 2]) (isR := [0, 3, 4]) (wr := [(h, ob 3 [.ref hp, .int (iI s0), .ref hw, .int (iI sp)]), (hb, ia E 8 fb), (hw, ia E 8 fw)]) (hC := rfl) (hR := rfl) (hnC := rfl) (hn := rfl) (hdis := by decide) (hR1 := ⟨Nat.le_of_ble_eq_true rfl, Nat.le_of_ble_eq_true rfl⟩) (hcs := ⟨Nat.le_of_ble_eq_true rfl, Nat.le_of_ble_eq_true rfl⟩) (fun v_ w_ hp_ => ?_)
  obtain ⟨rfl, rfl⟩ := hp_
  show Wx _ _ _ _ _ _ _ _ _ _ _ _ _ _ _ _ 7 [(0, .ref h), (1, .int (iI u)), (2, .int (iI x)), (3, .int (iI y))] [.int (iI (bI (8 ≤ n)))] [(h, ob 3 [.ref hp, .int (iI s0), .ref hw, .int (iI sp)]), (hb, ia E 8 fb), (hw, ia E 8 fw), (hp, ob 5 [.ref ha, .ref hb, .int (iI (n : Int))]), (ha, ia E 8 fa)]
  refine x_sub (ws' := [(h, ob 3 [.ref hp, .int (iI s0), .ref hw, .int (iI sp)]), (hp, ob 5 [.ref ha, .ref hb, .int (iI (n : Int))]), (ha, ia E 8 fa), (hb, ia E 8 fb), (hw, ia E 8 fw)]) [0, 3, 4, 1, 2] rfl rfl ?_
  refine x_if_eq (pc' := 10) (tgt := 13) C dX4_appendThing_7 rfl (by decide) (bI_rng) (fun c7 => ?_) (fun c7 => ?_)
  ·
    replace c7 := bI_z c7
    refine x_aload_n (pc' := 14) C 0 dX4_appendThing_13 rfl rfl ?_
    refine x_get (pc' := 17) C dX4_appendThing_14 rfl ff_X4_16_3 0 rfl rfl ?_
    refine x_aload_n (pc' := 18) C 0 dX4_appendThing_17 rfl rfl ?_
    refine x_get (pc' := 21) C dX4_appendThing_18 rfl ff_X4_24_3 0 rfl rfl ?_
    refine x_get (pc' := 24) C dX4_appendThing_21 rfl ff_X4_32_5 1 rfl rfl ?_
    refine x_iload_n (pc' := 25) C 1 dX4_appendThing_24 rfl rfl ?_
    refine x_iast (pc' := 26) (ws' := [(h, ob 3 [.ref hp, .int (iI s0), .ref hw, .int (iI sp)]), (hp, ob 5 [.ref ha, .ref hb, .int (iI (n : Int))]), (ha, ia E 8 fa), (hb, ia E 8 fb), (hw, ia E 8 (va_up fw n u))]) C n dX4_appendThing_25 rfl 4 rfl (by omega) (by omega) (by omega) rfl ?_
    refine x_aload_n (pc' := 27) C 0 dX4_appendThing_26 rfl rfl ?_
    refine x_get (pc' := 30) C dX4_appendThing_27 rfl ff_X4_24_3 0 rfl rfl ?_
    refine x_iload_n (pc' := 31) C 2 dX4_appendThing_30 rfl rfl ?_
    refine x_iload_n (pc' := 32) C 3 dX4_appendThing_31 rfl rfl ?_
    refine x_callV (pc' := 35) (As := [.int (iI x), .int (iI y)]) (rest := []) (q0 := 0) C rfl rfl cv_X4_35_X6 dX4_appendThing_32 rfl (c_X6_appendLine l E hp ha hb n 8 x y fa fb (show 8 < 1000000 from by omega) (show n < 8 from by omega)) mm_X6_appendLine (hstk := rfl) (hlen := rfl) (hcat := Nat.le_of_ble_eq_true rfl) (isC := [1, 2, 3]) (isR := [0, 4]) (wr := [(h, ob 3 [.ref hp, .int (iI s0), .ref hw, .int (iI sp)]), (hw, ia E 8 (va_up fw n u))]) (hC := rfl) (hR := rfl) (hnC := rfl) (hn := rfl) (hdis := by decide) (hR1 := ⟨Nat.le_of_ble_eq_true rfl, Nat.le_of_ble_eq_true rfl⟩) (hcs := ⟨Nat.le_of_ble_eq_true rfl, Nat.le_of_ble_eq_true rfl⟩) (fun v_ w_ hp_ => ?_)
    obtain ⟨rfl, rfl⟩ := hp_
    show Wx _ _ _ _ _ _ _ _ _ _ _ _ _ _ _ _ 35 [(0, .ref h), (1, .int (iI u)), (2, .int (iI x)), (3, .int (iI y))] [.int (iI (n : Int))] [(h, ob 3 [.ref hp, .int (iI s0), .ref hw, .int (iI sp)]), (hw, ia E 8 (va_up fw n u)), (hp, ob 5 [.ref ha, .ref hb, .int (iI ((n + 1 : Nat) : Int))]), (ha, ia E 8 (va_up fa n x)), (hb, ia E 8 (va_up fb n y))]
    refine x_sub (ws' := [(h, ob 3 [.ref hp, .int (iI s0), .ref hw, .int (iI sp)]), (hp, ob 5 [.ref ha, .ref hb, .int (iI ((n + 1 : Nat) : Int))]), (ha, ia E 8 (va_up fa n x)), (hb, ia E 8 (va_up fb n y)), (hw, ia E 8 (va_up fw n u))]) [0, 2, 3, 4, 1] rfl rfl ?_
    exact x_iret C hr dX4_appendThing_35 ⟨rfl, rfl⟩
  ·
    replace c7 := bI_nz c7
    exact absurd c7 (by omega)

set_option maxHeartbeats 4000000 in
set_option maxRecDepth 100000 in
theorem c_X4_mixThings (l : Launch) (E : EV) (h : Nat) (hp : Nat) (ha : Nat) (hb : Nat) (hw : Nat) (n : Nat) (s0 : Int) (sp : Int) (z : Int) (fa : Nat → Int) (fb : Nat → Int) (fw : Nat → Int) (hj : n ≤ 8) (hA : ∀ j_ : Nat, j_ < n → -100 ≤ fa j_ ∧ fa j_ ≤ 100) (hB : ∀ j_ : Nat, j_ < n → -100 ≤ fb j_ ∧ fb j_ ≤ 100) (hF : ∀ j_ : Nat, j_ < n → 1 ≤ fw j_ ∧ fw j_ ≤ 50) : MC l E yX4_mixThings cX4_mixThings 4 (some .long) ({ frames := 2, cells := 0, slots := 0, locals := 46 }) [.ref h, .long (lI z)] [(h, ob 3 [.ref hp, .int (iI s0), .ref hw, .int (iI sp)]), (hp, ob 5 [.ref ha, .ref hb, .int (iI (n : Int))]), (ha, ia E 8 fa), (hb, ia E 8 fb), (hw, ia E 8 fw)] (fun v_ w_ => v_ = some (.long (lI (mix3 fw fa fb n z))) ∧ w_ = [(h, ob 3 [.ref hp, .int (iI s0), .ref hw, .int (iI sp)]), (hp, ob 5 [.ref ha, .ref hb, .int (iI (n : Int))]), (ha, ia E 8 fa), (hb, ia E 8 fb), (hw, ia E 8 fw)]) := by
  refine MC.of (by decide +kernel) (Nat.le_of_ble_eq_true rfl) ?_
  intro p_ e_ s_ m_ args_ below_ meth_ c_ A_ C hr hnm
  have C : Cx p_ s_ m_ args_ meth_ c_ E A_ 4 cX4_mixThings RX4 := C
  show Wx _ _ _ _ _ _ _ _ _ _ _ _ _ _ _ _ 0 [(0, .ref h), (1, .long (lI z))] [] [(h, ob 3 [.ref hp, .int (iI s0), .ref hw, .int (iI sp)]), (hp, ob 5 [.ref ha, .ref hb, .int (iI (n : Int))]), (ha, ia E 8 fa), (hb, ia E 8 fb), (hw, ia E 8 fw)]
  refine x_iconst (pc' := 1) C dX4_mixThings_0 rfl ?_
  refine x_istore_n (pc' := 2) (lv' := [(3, .int (iI 0)), (0, .ref h), (1, .long (lI z))]) C dX4_mixThings_1 rfl (by decide) rfl ?_
  refine x_lv [1, 2, 0] rfl ?_
  refine x_loop (α := (Nat) × (Int)) (fun a_ => (a_.1 ≤ n) ∧ (a_.2 = mix3 fw fa fb a_.1 z)) (fun a_ => n - a_.1) (fun a_ => [(0, .ref h), (1, .long (lI a_.2)), (3, .int (iI (a_.1 : Int)))]) (fun a_ => [(h, ob 3 [.ref hp, .int (iI s0), .ref hw, .int (iI sp)]), (hp, ob 5 [.ref ha, .ref hb, .int (iI (n : Int))]), (ha, ia E 8 fa), (hb, ia E 8 fb), (hw, ia E 8 fw)]) ?_ (0, z) ?_
  · intro a_ hI_ ih2
    obtain ⟨i, y⟩ := a_
    obtain ⟨hi, hy⟩ := hI_
    replace hi : i ≤ n := hi
    replace hy : y = mix3 fw fa fb i z := hy
    show Wx _ _ _ _ _ _ _ _ _ _ _ _ _ _ _ _ 2 [(0, .ref h), (1, .long (lI y)), (3, .int (iI (i : Int)))] [] [(h, ob 3 [.ref hp, .int (iI s0), .ref hw, .int (iI sp)]), (hp, ob 5 [.ref ha, .ref hb, .int (iI (n : Int))]), (ha, ia E 8 fa), (hb, ia E 8 fb), (hw, ia E 8 fw)]
    refine x_iload_n (pc' := 3) C 2 dX4_mixThings_2 rfl rfl ?_
    refine x_aload_n (pc' := 4) C 0 dX4_mixThings_3 rfl rfl ?_
    refine x_get (pc' := 7) C dX4_mixThings_4 rfl ff_X4_24_3 0 rfl rfl ?_
    refine x_get (pc' := 10) C dX4_mixThings_7 rfl ff_X4_32_5 1 rfl rfl ?_
    refine x_icmp_ge (pc' := 13) (tgt := 39) C dX4_mixThings_10 rfl (by decide) (by omega) (by omega) (fun c10 => ?_) (fun c10 => ?_)
    ·
      refine x_lload_n (pc' := 40) C 1 dX4_mixThings_39 rfl rfl ?_
      refine x_top (b := .long (lI (mix3 fw fa fb n z))) (by rw [hy, show i = n by omega]) ?_
      exact x_lret C hr dX4_mixThings_40 ⟨rfl, rfl⟩
    ·
      refine x_aload_n (pc' := 14) C 0 dX4_mixThings_13 rfl rfl ?_
      refine x_get (pc' := 17) C dX4_mixThings_14 rfl ff_X4_24_3 0 rfl rfl ?_
      refine x_lload_n (pc' := 18) C 1 dX4_mixThings_17 rfl rfl ?_
      refine x_aload_n (pc' := 19) C 0 dX4_mixThings_18 rfl rfl ?_
      refine x_get (pc' := 22) C dX4_mixThings_19 rfl ff_X4_16_3 0 rfl rfl ?_
      refine x_iload_n (pc' := 23) C 2 dX4_mixThings_22 rfl rfl ?_
      refine x_iald (pc' := 24) C i dX4_mixThings_23 rfl 4 rfl (by omega) (by omega) (by omega) ?_
      have el23 := hF i (by omega)
      refine x_i2l (pc' := 25) C dX4_mixThings_24 rfl (by omega) ?_
      refine x_callN (pc' := 28) (As := [.long (lI y), .long (lI (fw i))]) (rest := [.ref hp]) C cn_X4_56 dX4_mixThings_25 rfl (c_X11_mix l E y (fw i) ) mm_X11_mix (hstk := rfl) (hlen := rfl) (hcat := Nat.le_of_ble_eq_true rfl) (isC := []) (isR := [0, 1, 2, 3, 4]) (wr := [(h, ob 3 [.ref hp, .int (iI s0), .ref hw, .int (iI sp)]), (hp, ob 5 [.ref ha, .ref hb, .int (iI (n : Int))]), (ha, ia E 8 fa), (hb, ia E 8 fb), (hw, ia E 8 fw)]) (hC := rfl) (hR := rfl) (hnC := rfl) (hn := rfl) (hdis := by decide) (hR1 := ⟨Nat.le_of_ble_eq_true rfl, Nat.le_of_ble_eq_true rfl⟩) (hcs := ⟨Nat.le_of_ble_eq_true rfl, Nat.le_of_ble_eq_true rfl⟩) (fun v_ w_ hp_ => ?_)
      obtain ⟨rfl, rfl⟩ := hp_
      show Wx _ _ _ _ _ _ _ _ _ _ _ _ _ _ _ _ 28 [(0, .ref h), (1, .long (lI y)), (3, .int (iI (i : Int)))] [.long (lI (mx y (fw i))), .ref hp] [(h, ob 3 [.ref hp, .int (iI s0), .ref hw, .int (iI sp)]), (hp, ob 5 [.ref ha, .ref hb, .int (iI (n : Int))]), (ha, ia E 8 fa), (hb, ia E 8 fb), (hw, ia E 8 fw)]
      refine x_iload_n (pc' := 29) C 2 dX4_mixThings_28 rfl rfl ?_
      refine x_callV (pc' := 32) (As := [.long (lI (mx y (fw i))), .int (iI (i : Int))]) (rest := []) (q0 := 0) C rfl rfl cv_X4_60_X6 dX4_mixThings_29 rfl (c_X6_mixLine l E hp ha hb n i 8 (mx y (fw i)) fa fb (show 8 < 1000000 from by omega) (show i < 8 from by omega) (show -100 ≤ fa i ∧ fa i ≤ 100 from hA i (by omega)) (show -100 ≤ fb i ∧ fb i ≤ 100 from hB i (by omega))) mm_X6_mixLine (hstk := rfl) (hlen := rfl) (hcat := Nat.le_of_ble_eq_true rfl) (isC := [1, 2, 3]) (isR := [0, 4]) (wr := [(h, ob 3 [.ref hp, .int (iI s0), .ref hw, .int (iI sp)]), (hw, ia E 8 fw)]) (hC := rfl) (hR := rfl) (hnC := rfl) (hn := rfl) (hdis := by decide) (hR1 := ⟨Nat.le_of_ble_eq_true rfl, Nat.le_of_ble_eq_true rfl⟩) (hcs := ⟨Nat.le_of_ble_eq_true rfl, Nat.le_of_ble_eq_true rfl⟩) (fun v_ w_ hp_ => ?_)
      obtain ⟨rfl, rfl⟩ := hp_
      show Wx _ _ _ _ _ _ _ _ _ _ _ _ _ _ _ _ 32 [(0, .ref h), (1, .long (lI y)), (3, .int (iI (i : Int)))] [.long (lI (mx (mx (mx y (fw i)) (fa i)) (fb i)))] [(h, ob 3 [.ref hp, .int (iI s0), .ref hw, .int (iI sp)]), (hw, ia E 8 fw), (hp, ob 5 [.ref ha, .ref hb, .int (iI (n : Int))]), (ha, ia E 8 fa), (hb, ia E 8 fb)]
      refine x_sub (ws' := [(h, ob 3 [.ref hp, .int (iI s0), .ref hw, .int (iI sp)]), (hp, ob 5 [.ref ha, .ref hb, .int (iI (n : Int))]), (ha, ia E 8 fa), (hb, ia E 8 fb), (hw, ia E 8 fw)]) [0, 2, 3, 4, 1] rfl rfl ?_
      refine x_lstore_n (pc' := 33) (lv' := [(1, .long (lI (mx (mx (mx y (fw i)) (fa i)) (fb i)))), (0, .ref h), (3, .int (iI (i : Int)))]) C dX4_mixThings_32 rfl (by decide) rfl ?_
      refine x_iinc (pc' := 36) (lv' := [(3, .int (iI ((i : Int) + 1))), (1, .long (lI (mx (mx (mx y (fw i)) (fa i)) (fb i)))), (0, .ref h)]) C 2 dX4_mixThings_33 rfl (by decide) rfl rfl ?_
      refine x_lvI (lv' := [(3, .int (iI ((i + 1 : Nat) : Int))), (1, .long (lI (mx (mx (mx y (fw i)) (fa i)) (fb i)))), (0, .ref h)]) 0 rfl (by omega) rfl ?_
      refine x_goto (tgt := 2) C dX4_mixThings_36 (by decide) ?_
      refine x_lv [2, 1, 0] rfl ?_
      exact ih2 ((i + 1), (mx (mx (mx y (fw i)) (fa i)) (fb i))) ⟨(show (i + 1) ≤ n from by omega), (show (mx (mx (mx y (fw i)) (fa i)) (fb i)) = mix3 fw fa fb (i + 1) z from by rw [hy]; rfl)⟩ (show n - (i + 1) < n - i from by omega)
  · exact ⟨(show 0 ≤ n from by omega), (show z = mix3 fw fa fb 0 z from rfl)⟩

set_option maxHeartbeats 4000000 in
set_option maxRecDepth 100000 in
theorem c_X1_appendBlock (l : Launch) (E : EV) (h : Nat) (hp : Nat) (ha : Nat) (hb : Nat) (hw : Nat) (n : Nat) (s0 : Int) (x : Int) (y : Int) (fa : Nat → Int) (fb : Nat → Int) (fn : Nat → Int) (hj : n < 8) : MC l E yX1_appendBlock cX1_appendBlock 3 (some .int) ({ frames := 2, cells := 0, slots := 0, locals := 45 }) [.ref h, .int (iI x), .int (iI y)] [(h, ob 1 [.ref hp, .int (iI s0), .ref hw]), (hp, ob 5 [.ref ha, .ref hb, .int (iI (n : Int))]), (ha, ia E 8 fa), (hb, ia E 8 fb), (hw, ia E 8 fn)] (fun v_ w_ => v_ = some (.int (iI (n : Int))) ∧ w_ = [(h, ob 1 [.ref hp, .int (iI s0), .ref hw]), (hp, ob 5 [.ref ha, .ref hb, .int (iI ((n + 1 : Nat) : Int))]), (ha, ia E 8 (va_up fa n x)), (hb, ia E 8 (va_up fb n y)), (hw, ia E 8 (va_up fn n 0))]) := by
  refine MC.of (by decide +kernel) (Nat.le_of_ble_eq_true rfl) ?_
  intro p_ e_ s_ m_ args_ below_ meth_ c_ A_ C hr hnm
  have C : Cx p_ s_ m_ args_ meth_ c_ E A_ 3 cX1_appendBlock RX1 := C
  show Wx _ _ _ _ _ _ _ _ _ _ _ _ _ _ _ _ 0 [(0, .ref h), (1, .int (iI x)), (2, .int (iI y))] [] [(h, ob 1 [.ref hp, .int (iI s0), .ref hw]), (hp, ob 5 [.ref ha, .ref hb, .int (iI (n : Int))]), (ha, ia E 8 fa), (hb, ia E 8 fb), (hw, ia E 8 fn)]
  refine x_aload_n (pc' := 1) C 0 dX1_appendBlock_0 rfl rfl ?_
  refine x_get (pc' := 4) C dX1_appendBlock_1 rfl ff_X1_20_1 0 rfl rfl ?_
  refine x_callV (pc' := 7) (As := []) (rest := []) (q0 := 0) C rfl rfl cv_X1_24_X6 dX1_appendBlock_4 rfl (c_X6_isFull l E hp ha hb n 8 fa (show n < 1000000 from by omega) (show 8 < 1000000 from by omega)) mm_X6_isFull (hstk := rfl) (hlen := rfl) (hcat := Nat.le_of_ble_eq_true rfl) (isC := [1, 2]) (isR := [0, 3, 4]) (wr := [(h, ob 1 [.ref hp, .int (iI s0), .ref hw]), (hb, ia E 8 fb), (hw, ia E 8 fn)]) (hC := rfl) (hR := rfl) (hnC := rfl) (hn := rfl) (hdis := by decide) (hR1 := ⟨Nat.le_of_ble_eq_true rfl, Nat.le_of_ble_eq_true rfl⟩) (hcs := ⟨Nat.le_of_ble_eq_true rfl, Nat.le_of_ble_eq_true rfl⟩) (fun v_ w_ hp_ => ?_)
  obtain ⟨rfl, rfl⟩ := hp_
  show Wx _ _ _ _ _ _ _ _ _ _ _ _ _ _ _ _ 7 [(0, .ref h), (1, .int (iI x)), (2, .int (iI y))] [.int (iI (bI (8 ≤ n)))] [(h, ob 1 [.ref hp, .int (iI s0), .ref hw]), (hb, ia E 8 fb), (hw, ia E 8 fn), (hp, ob 5 [.ref ha, .ref hb, .int (iI (n : Int))]), (ha, ia E 8 fa)]
  refine x_sub (ws' := [(h, ob 1 [.ref hp, .int (iI s0), .ref hw]), (hp, ob 5 [.ref ha, .ref hb, .int (iI (n : Int))]), (ha, ia E 8 fa), (hb, ia E 8 fb), (hw, ia E 8 fn)]) [0, 3, 4, 1, 2] rfl rfl ?_
  refine x_if_eq (pc' := 10) (tgt := 13) C dX1_appendBlock_7 rfl (by decide) (bI_rng) (fun c7 => ?_) (fun c7 => ?_)
  ·
    replace c7 := bI_z c7
    refine x_aload_n (pc' := 14) C 0 dX1_appendBlock_13 rfl rfl ?_
    refine x_get (pc' := 17) C dX1_appendBlock_14 rfl ff_X1_16_1 0 rfl rfl ?_
    refine x_aload_n (pc' := 18) C 0 dX1_appendBlock_17 rfl rfl ?_
    refine x_get (pc' := 21) C dX1_appendBlock_18 rfl ff_X1_20_1 0 rfl rfl ?_
    refine x_get (pc' := 24) C dX1_appendBlock_21 rfl ff_X1_28_5 1 rfl rfl ?_
    refine x_iconst (pc' := 25) C dX1_appendBlock_24 rfl ?_
    refine x_iast (pc' := 26) (ws' := [(h, ob 1 [.ref hp, .int (iI s0), .ref hw]), (hp, ob 5 [.ref ha, .ref hb, .int (iI (n : Int))]), (ha, ia E 8 fa), (hb, ia E 8 fb), (hw, ia E 8 (va_up fn n 0))]) C n dX1_appendBlock_25 rfl 4 rfl (by omega) (by omega) (by omega) rfl ?_
    refine x_aload_n (pc' := 27) C 0 dX1_appendBlock_26 rfl rfl ?_
    refine x_get (pc' := 30) C dX1_appendBlock_27 rfl ff_X1_20_1 0 rfl rfl ?_
    refine x_iload_n (pc' := 31) C 1 dX1_appendBlock_30 rfl rfl ?_
    refine x_iload_n (pc' := 32) C 2 dX1_appendBlock_31 rfl rfl ?_
    refine x_callV (pc' := 35) (As := [.int (iI x), .int (iI y)]) (rest := []) (q0 := 0) C rfl rfl cv_X1_32_X6 dX1_appendBlock_32 rfl (c_X6_appendLine l E hp ha hb n 8 x y fa fb (show 8 < 1000000 from by omega) (show n < 8 from by omega)) mm_X6_appendLine (hstk := rfl) (hlen := rfl) (hcat := Nat.le_of_ble_eq_true rfl) (isC := [1, 2, 3]) (isR := [0, 4]) (wr := [(h, ob 1 [.ref hp, .int (iI s0), .ref hw]), (hw, ia E 8 (va_up fn n 0))]) (hC := rfl) (hR := rfl) (hnC := rfl) (hn := rfl) (hdis := by decide) (hR1 := ⟨Nat.le_of_ble_eq_true rfl, Nat.le_of_ble_eq_true rfl⟩) (hcs := ⟨Nat.le_of_ble_eq_true rfl, Nat.le_of_ble_eq_true rfl⟩) (fun v_ w_ hp_ => ?_)
    obtain ⟨rfl, rfl⟩ := hp_
    show Wx _ _ _ _ _ _ _ _ _ _ _ _ _ _ _ _ 35 [(0, .ref h), (1, .int (iI x)), (2, .int (iI y))] [.int (iI (n : Int))] [(h, ob 1 [.ref hp, .int (iI s0), .ref hw]), (hw, ia E 8 (va_up fn n 0)), (hp, ob 5 [.ref ha, .ref hb, .int (iI ((n + 1 : Nat) : Int))]), (ha, ia E 8 (va_up fa n x)), (hb, ia E 8 (va_up fb n y))]
    refine x_sub (ws' := [(h, ob 1 [.ref hp, .int (iI s0), .ref hw]), (hp, ob 5 [.ref ha, .ref hb, .int (iI ((n + 1 : Nat) : Int))]), (ha, ia E 8 (va_up fa n x)), (hb, ia E 8 (va_up fb n y)), (hw, ia E 8 (va_up fn n 0))]) [0, 2, 3, 4, 1] rfl rfl ?_
    exact x_iret C hr dX1_appendBlock_35 ⟨rfl, rfl⟩
  ·
    replace c7 := bI_nz c7
    exact absurd c7 (by omega)

set_option maxHeartbeats 4000000 in
set_option maxRecDepth 100000 in
theorem c_X1_isNeeded (l : Launch) (E : EV) (h : Nat) (hp : Nat) (hw : Nat) (i : Nat) (j : Nat) (s0 : Int) (fn : Nat → Int) (hi : i < 8) (hj : j < 8) (hF : 0 ≤ fn i ∧ fn i < 256) : MC l E yX1_isNeeded cX1_isNeeded 3 (some .boolean) ({ frames := 1, cells := 0, slots := 0, locals := 21 }) [.ref h, .int (iI (i : Int)), .int (iI (j : Int))] [(h, ob 1 [.ref hp, .int (iI s0), .ref hw]), (hw, ia E 8 fn)] (fun v_ w_ => v_ = some (.int (iI (bI ((fn i).toNat.testBit j = true)))) ∧ w_ = [(h, ob 1 [.ref hp, .int (iI s0), .ref hw]), (hw, ia E 8 fn)]) := by
  refine MC.of (by decide +kernel) (Nat.le_of_ble_eq_true rfl) ?_
  intro p_ e_ s_ m_ args_ below_ meth_ c_ A_ C hr hnm
  have C : Cx p_ s_ m_ args_ meth_ c_ E A_ 3 cX1_isNeeded RX1 := C
  show Wx _ _ _ _ _ _ _ _ _ _ _ _ _ _ _ _ 0 [(0, .ref h), (1, .int (iI (i : Int))), (2, .int (iI (j : Int)))] [] [(h, ob 1 [.ref hp, .int (iI s0), .ref hw]), (hw, ia E 8 fn)]
  refine x_aload_n (pc' := 1) C 0 dX1_isNeeded_0 rfl rfl ?_
  refine x_get (pc' := 4) C dX1_isNeeded_1 rfl ff_X1_16_1 0 rfl rfl ?_
  refine x_iload_n (pc' := 5) C 1 dX1_isNeeded_4 rfl rfl ?_
  refine x_iald (pc' := 6) C i dX1_isNeeded_5 rfl 1 rfl (by omega) (by omega) (by omega) ?_
  refine x_top (b := .int (iI (((fn i).toNat : Nat) : Int))) (by congr 2; omega) ?_
  refine x_iload_n (pc' := 7) C 2 dX1_isNeeded_6 rfl rfl ?_
  refine x_callN (pc' := 10) (As := [.int (iI (((fn i).toNat : Nat) : Int)), .int (iI (j : Int))]) (rest := []) C cn_X1_36 dX1_isNeeded_7 rfl (c_X11_holds l E ((fn i).toNat) j (show ((fn i).toNat) < 2147483648 from by omega) (show j < 32 from by omega)) mm_X11_holds (hstk := rfl) (hlen := rfl) (hcat := Nat.le_of_ble_eq_true rfl) (isC := []) (isR := [0, 1]) (wr := [(h, ob 1 [.ref hp, .int (iI s0), .ref hw]), (hw, ia E 8 fn)]) (hC := rfl) (hR := rfl) (hnC := rfl) (hn := rfl) (hdis := by decide) (hR1 := ⟨Nat.le_of_ble_eq_true rfl, Nat.le_of_ble_eq_true rfl⟩) (hcs := ⟨Nat.le_of_ble_eq_true rfl, Nat.le_of_ble_eq_true rfl⟩) (fun v_ w_ hp_ => ?_)
  obtain ⟨rfl, rfl⟩ := hp_
  show Wx _ _ _ _ _ _ _ _ _ _ _ _ _ _ _ _ 10 [(0, .ref h), (1, .int (iI (i : Int))), (2, .int (iI (j : Int)))] [.int (iI (bI (((fn i).toNat).testBit j = true)))] [(h, ob 1 [.ref hp, .int (iI s0), .ref hw]), (hw, ia E 8 fn)]
  refine x_top (b := .int (iI (bI ((fn i).toNat.testBit j = true)))) (by first | rfl | rw [bI_t (by omega)] | rw [bI_f (by omega)]) ?_
  exact x_zret C (nar_bI) hr dX1_isNeeded_10 ⟨rfl, rfl⟩

set_option maxHeartbeats 4000000 in
set_option maxRecDepth 100000 in
theorem c_X1_turnNeed (l : Launch) (E : EV) (h : Nat) (hp : Nat) (hw : Nat) (i : Nat) (j : Nat) (s0 : Int) (fn : Nat → Int) (hi : i < 8) (hj : j < 8) (hF : 0 ≤ fn i ∧ fn i < 256) : MC l E yX1_turnNeed cX1_turnNeed 3 (none) ({ frames := 0, cells := 0, slots := 0, locals := 0 }) [.ref h, .int (iI (i : Int)), .int (iI (j : Int))] [(h, ob 1 [.ref hp, .int (iI s0), .ref hw]), (hw, ia E 8 fn)] (fun v_ w_ => v_ = none ∧ w_ = [(h, ob 1 [.ref hp, .int (iI s0), .ref hw]), (hw, ia E 8 (va_up fn i (((fn i).toNat ^^^ 2 ^ j : Nat) : Int)))]) := by
  refine MC.of (by decide +kernel) (Nat.le_of_ble_eq_true rfl) ?_
  intro p_ e_ s_ m_ args_ below_ meth_ c_ A_ C hr hnm
  have C : Cx p_ s_ m_ args_ meth_ c_ E A_ 3 cX1_turnNeed RX1 := C
  show Wx _ _ _ _ _ _ _ _ _ _ _ _ _ _ _ _ 0 [(0, .ref h), (1, .int (iI (i : Int))), (2, .int (iI (j : Int)))] [] [(h, ob 1 [.ref hp, .int (iI s0), .ref hw]), (hw, ia E 8 fn)]
  refine x_aload_n (pc' := 1) C 0 dX1_turnNeed_0 rfl rfl ?_
  refine x_get (pc' := 4) C dX1_turnNeed_1 rfl ff_X1_16_1 0 rfl rfl ?_
  refine x_iload_n (pc' := 5) C 1 dX1_turnNeed_4 rfl rfl ?_
  refine x_dup2 (pc' := 6) C dX1_turnNeed_5 rfl rfl rfl ?_
  refine x_iald (pc' := 7) C i dX1_turnNeed_6 rfl 1 rfl (by omega) (by omega) (by omega) ?_
  refine x_top (b := .int (iI (((fn i).toNat : Nat) : Int))) (by congr 2; omega) ?_
  refine x_iconst (pc' := 8) C dX1_turnNeed_7 rfl ?_
  refine x_iload_n (pc' := 9) C 2 dX1_turnNeed_8 rfl rfl ?_
  refine x_ishl (pc' := 10) (z := (iI ((2 ^ j : Nat) : Int))) C dX1_turnNeed_9 rfl (bt_shl (by omega)) ?_
  refine x_ixor (pc' := 11) (z := (iI (((fn i).toNat ^^^ 2 ^ j : Nat) : Int))) C dX1_turnNeed_10 rfl (bt_xor _ _) ?_
  refine x_iast (pc' := 12) (ws' := [(h, ob 1 [.ref hp, .int (iI s0), .ref hw]), (hw, ia E 8 (va_up fn i (((fn i).toNat ^^^ 2 ^ j : Nat) : Int)))]) C i dX1_turnNeed_11 rfl 1 rfl (by omega) (by omega) (by omega) rfl ?_
  exact x_vret C hr dX1_turnNeed_12 ⟨rfl, rfl⟩

set_option maxHeartbeats 4000000 in
set_option maxRecDepth 100000 in
theorem c_X1_mixBlocks (l : Launch) (E : EV) (h : Nat) (hp : Nat) (ha : Nat) (hb : Nat) (hw : Nat) (n : Nat) (s0 : Int) (z : Int) (fa : Nat → Int) (fb : Nat → Int) (fn : Nat → Int) (hj : n ≤ 8) (hA : ∀ j_ : Nat, j_ < n → -100 ≤ fa j_ ∧ fa j_ ≤ 100) (hB : ∀ j_ : Nat, j_ < n → -100 ≤ fb j_ ∧ fb j_ ≤ 100) (hF : ∀ j_ : Nat, j_ < n → 0 ≤ fn j_ ∧ fn j_ < 256) : MC l E yX1_mixBlocks cX1_mixBlocks 4 (some .long) ({ frames := 2, cells := 0, slots := 0, locals := 46 }) [.ref h, .long (lI z)] [(h, ob 1 [.ref hp, .int (iI s0), .ref hw]), (hp, ob 5 [.ref ha, .ref hb, .int (iI (n : Int))]), (ha, ia E 8 fa), (hb, ia E 8 fb), (hw, ia E 8 fn)] (fun v_ w_ => v_ = some (.long (lI (mix3 fa fb fn n z))) ∧ w_ = [(h, ob 1 [.ref hp, .int (iI s0), .ref hw]), (hp, ob 5 [.ref ha, .ref hb, .int (iI (n : Int))]), (ha, ia E 8 fa), (hb, ia E 8 fb), (hw, ia E 8 fn)]) := by
  refine MC.of (by decide +kernel) (Nat.le_of_ble_eq_true rfl) ?_
  intro p_ e_ s_ m_ args_ below_ meth_ c_ A_ C hr hnm
  have C : Cx p_ s_ m_ args_ meth_ c_ E A_ 4 cX1_mixBlocks RX1 := C
  show Wx _ _ _ _ _ _ _ _ _ _ _ _ _ _ _ _ 0 [(0, .ref h), (1, .long (lI z))] [] [(h, ob 1 [.ref hp, .int (iI s0), .ref hw]), (hp, ob 5 [.ref ha, .ref hb, .int (iI (n : Int))]), (ha, ia E 8 fa), (hb, ia E 8 fb), (hw, ia E 8 fn)]
  refine x_iconst (pc' := 1) C dX1_mixBlocks_0 rfl ?_
  refine x_istore_n (pc' := 2) (lv' := [(3, .int (iI 0)), (0, .ref h), (1, .long (lI z))]) C dX1_mixBlocks_1 rfl (by decide) rfl ?_
  refine x_lv [1, 2, 0] rfl ?_
  refine x_loop (α := (Nat) × (Int)) (fun a_ => (a_.1 ≤ n) ∧ (a_.2 = mix3 fa fb fn a_.1 z)) (fun a_ => n - a_.1) (fun a_ => [(0, .ref h), (1, .long (lI a_.2)), (3, .int (iI (a_.1 : Int)))]) (fun a_ => [(h, ob 1 [.ref hp, .int (iI s0), .ref hw]), (hp, ob 5 [.ref ha, .ref hb, .int (iI (n : Int))]), (ha, ia E 8 fa), (hb, ia E 8 fb), (hw, ia E 8 fn)]) ?_ (0, z) ?_
  · intro a_ hI_ ih2
    obtain ⟨i, y⟩ := a_
    obtain ⟨hi, hy⟩ := hI_
    replace hi : i ≤ n := hi
    replace hy : y = mix3 fa fb fn i z := hy
    show Wx _ _ _ _ _ _ _ _ _ _ _ _ _ _ _ _ 2 [(0, .ref h), (1, .long (lI y)), (3, .int (iI (i : Int)))] [] [(h, ob 1 [.ref hp, .int (iI s0), .ref hw]), (hp, ob 5 [.ref ha, .ref hb, .int (iI (n : Int))]), (ha, ia E 8 fa), (hb, ia E 8 fb), (hw, ia E 8 fn)]
    refine x_iload_n (pc' := 3) C 2 dX1_mixBlocks_2 rfl rfl ?_
    refine x_aload_n (pc' := 4) C 0 dX1_mixBlocks_3 rfl rfl ?_
    refine x_get (pc' := 7) C dX1_mixBlocks_4 rfl ff_X1_20_1 0 rfl rfl ?_
    refine x_get (pc' := 10) C dX1_mixBlocks_7 rfl ff_X1_28_5 1 rfl rfl ?_
    refine x_icmp_ge (pc' := 13) (tgt := 39) C dX1_mixBlocks_10 rfl (by decide) (by omega) (by omega) (fun c10 => ?_) (fun c10 => ?_)
    ·
      refine x_lload_n (pc' := 40) C 1 dX1_mixBlocks_39 rfl rfl ?_
      refine x_top (b := .long (lI (mix3 fa fb fn n z))) (by rw [hy, show i = n by omega]) ?_
      exact x_lret C hr dX1_mixBlocks_40 ⟨rfl, rfl⟩
    ·
      refine x_aload_n (pc' := 14) C 0 dX1_mixBlocks_13 rfl rfl ?_
      refine x_get (pc' := 17) C dX1_mixBlocks_14 rfl ff_X1_20_1 0 rfl rfl ?_
      refine x_lload_n (pc' := 18) C 1 dX1_mixBlocks_17 rfl rfl ?_
      refine x_iload_n (pc' := 19) C 2 dX1_mixBlocks_18 rfl rfl ?_
      refine x_callV (pc' := 22) (As := [.long (lI y), .int (iI (i : Int))]) (rest := []) (q0 := 0) C rfl rfl cv_X1_53_X6 dX1_mixBlocks_19 rfl (c_X6_mixLine l E hp ha hb n i 8 y fa fb (show 8 < 1000000 from by omega) (show i < 8 from by omega) (show -100 ≤ fa i ∧ fa i ≤ 100 from hA i (by omega)) (show -100 ≤ fb i ∧ fb i ≤ 100 from hB i (by omega))) mm_X6_mixLine (hstk := rfl) (hlen := rfl) (hcat := Nat.le_of_ble_eq_true rfl) (isC := [1, 2, 3]) (isR := [0, 4]) (wr := [(h, ob 1 [.ref hp, .int (iI s0), .ref hw]), (hw, ia E 8 fn)]) (hC := rfl) (hR := rfl) (hnC := rfl) (hn := rfl) (hdis := by decide) (hR1 := ⟨Nat.le_of_ble_eq_true rfl, Nat.le_of_ble_eq_true rfl⟩) (hcs := ⟨Nat.le_of_ble_eq_true rfl, Nat.le_of_ble_eq_true rfl⟩) (fun v_ w_ hp_ => ?_)
      obtain ⟨rfl, rfl⟩ := hp_
      show Wx _ _ _ _ _ _ _ _ _ _ _ _ _ _ _ _ 22 [(0, .ref h), (1, .long (lI y)), (3, .int (iI (i : Int)))] [.long (lI (mx (mx y (fa i)) (fb i)))] [(h, ob 1 [.ref hp, .int (iI s0), .ref hw]), (hw, ia E 8 fn), (hp, ob 5 [.ref ha, .ref hb, .int (iI (n : Int))]), (ha, ia E 8 fa), (hb, ia E 8 fb)]
      refine x_sub (ws' := [(h, ob 1 [.ref hp, .int (iI s0), .ref hw]), (hp, ob 5 [.ref ha, .ref hb, .int (iI (n : Int))]), (ha, ia E 8 fa), (hb, ia E 8 fb), (hw, ia E 8 fn)]) [0, 2, 3, 4, 1] rfl rfl ?_
      refine x_aload_n (pc' := 23) C 0 dX1_mixBlocks_22 rfl rfl ?_
      refine x_get (pc' := 26) C dX1_mixBlocks_23 rfl ff_X1_16_1 0 rfl rfl ?_
      refine x_iload_n (pc' := 27) C 2 dX1_mixBlocks_26 rfl rfl ?_
      refine x_iald (pc' := 28) C i dX1_mixBlocks_27 rfl 4 rfl (by omega) (by omega) (by omega) ?_
      have el27 := hF i (by omega)
      refine x_i2l (pc' := 29) C dX1_mixBlocks_28 rfl (by omega) ?_
      refine x_callN (pc' := 32) (As := [.long (lI (mx (mx y (fa i)) (fb i))), .long (lI (fn i))]) (rest := []) C cn_X1_57 dX1_mixBlocks_29 rfl (c_X11_mix l E (mx (mx y (fa i)) (fb i)) (fn i) ) mm_X11_mix (hstk := rfl) (hlen := rfl) (hcat := Nat.le_of_ble_eq_true rfl) (isC := []) (isR := [0, 1, 2, 3, 4]) (wr := [(h, ob 1 [.ref hp, .int (iI s0), .ref hw]), (hp, ob 5 [.ref ha, .ref hb, .int (iI (n : Int))]), (ha, ia E 8 fa), (hb, ia E 8 fb), (hw, ia E 8 fn)]) (hC := rfl) (hR := rfl) (hnC := rfl) (hn := rfl) (hdis := by decide) (hR1 := ⟨Nat.le_of_ble_eq_true rfl, Nat.le_of_ble_eq_true rfl⟩) (hcs := ⟨Nat.le_of_ble_eq_true rfl, Nat.le_of_ble_eq_true rfl⟩) (fun v_ w_ hp_ => ?_)
      obtain ⟨rfl, rfl⟩ := hp_
      show Wx _ _ _ _ _ _ _ _ _ _ _ _ _ _ _ _ 32 [(0, .ref h), (1, .long (lI y)), (3, .int (iI (i : Int)))] [.long (lI (mx (mx (mx y (fa i)) (fb i)) (fn i)))] [(h, ob 1 [.ref hp, .int (iI s0), .ref hw]), (hp, ob 5 [.ref ha, .ref hb, .int (iI (n : Int))]), (ha, ia E 8 fa), (hb, ia E 8 fb), (hw, ia E 8 fn)]
      refine x_lstore_n (pc' := 33) (lv' := [(1, .long (lI (mx (mx (mx y (fa i)) (fb i)) (fn i)))), (0, .ref h), (3, .int (iI (i : Int)))]) C dX1_mixBlocks_32 rfl (by decide) rfl ?_
      refine x_iinc (pc' := 36) (lv' := [(3, .int (iI ((i : Int) + 1))), (1, .long (lI (mx (mx (mx y (fa i)) (fb i)) (fn i)))), (0, .ref h)]) C 2 dX1_mixBlocks_33 rfl (by decide) rfl rfl ?_
      refine x_lvI (lv' := [(3, .int (iI ((i + 1 : Nat) : Int))), (1, .long (lI (mx (mx (mx y (fa i)) (fb i)) (fn i)))), (0, .ref h)]) 0 rfl (by omega) rfl ?_
      refine x_goto (tgt := 2) C dX1_mixBlocks_36 (by decide) ?_
      refine x_lv [2, 1, 0] rfl ?_
      exact ih2 ((i + 1), (mx (mx (mx y (fa i)) (fb i)) (fn i))) ⟨(show (i + 1) ≤ n from by omega), (show (mx (mx (mx y (fa i)) (fb i)) (fn i)) = mix3 fa fb fn (i + 1) z from by rw [hy]; rfl)⟩ (show n - (i + 1) < n - i from by omega)
  · exact ⟨(show 0 ≤ n from by omega), (show z = mix3 fa fb fn 0 z from rfl)⟩

set_option maxHeartbeats 4000000 in
set_option maxRecDepth 100000 in
theorem c_X2_dropParts_3 (l : Launch) (E : EV) (h : Nat) (hp : Nat) (ha : Nat) (hb : Nat) (hw : Nat) (n : Nat) (s0 : Int) (sp : Int)  : MC l E yX2_dropParts cX2_dropParts 1 (none) ({ frames := 0, cells := 0, slots := 0, locals := 0 }) [.ref h] [(h, ob 3 [.ref hp, .int (iI s0), .ref hw, .int (iI sp)]), (hp, ob 5 [.ref ha, .ref hb, .int (iI (n : Int))])] (fun v_ w_ => v_ = none ∧ w_ = [(h, ob 3 [.ref hp, .int (iI s0), .ref hw, .int (iI sp)]), (hp, ob 5 [.ref ha, .ref hb, .int (iI 0)])]) := by
  refine MC.of (by decide +kernel) (Nat.le_of_ble_eq_true rfl) ?_
  intro p_ e_ s_ m_ args_ below_ meth_ c_ A_ C hr hnm
  have C : Cx p_ s_ m_ args_ meth_ c_ E A_ 1 cX2_dropParts RX2 := C
  show Wx _ _ _ _ _ _ _ _ _ _ _ _ _ _ _ _ 0 [(0, .ref h)] [] [(h, ob 3 [.ref hp, .int (iI s0), .ref hw, .int (iI sp)]), (hp, ob 5 [.ref ha, .ref hb, .int (iI (n : Int))])]
  refine x_aload_n (pc' := 1) C 0 dX2_dropParts_0 rfl rfl ?_
  refine x_get (pc' := 4) C dX2_dropParts_1 rfl ff_X2_7_3 0 rfl rfl ?_
  refine x_iconst (pc' := 5) C dX2_dropParts_4 rfl ?_
  refine x_put (pc' := 8) (ws' := [(h, ob 3 [.ref hp, .int (iI s0), .ref hw, .int (iI sp)]), (hp, ob 5 [.ref ha, .ref hb, .int (iI 0)])]) C dX2_dropParts_5 rfl pf_X2_17_5 1 rfl rfl rfl (Nat.le_of_ble_eq_true rfl) rfl ?_
  exact x_vret C hr dX2_dropParts_8 ⟨rfl, rfl⟩

set_option maxHeartbeats 4000000 in
set_option maxRecDepth 100000 in
theorem c_X2_dropParts_4 (l : Launch) (E : EV) (h : Nat) (hp : Nat) (ha : Nat) (hb : Nat) (hw : Nat) (n : Nat) (s0 : Int)  : MC l E yX2_dropParts cX2_dropParts 1 (none) ({ frames := 0, cells := 0, slots := 0, locals := 0 }) [.ref h] [(h, ob 1 [.ref hp, .int (iI s0), .ref hw]), (hp, ob 5 [.ref ha, .ref hb, .int (iI (n : Int))])] (fun v_ w_ => v_ = none ∧ w_ = [(h, ob 1 [.ref hp, .int (iI s0), .ref hw]), (hp, ob 5 [.ref ha, .ref hb, .int (iI 0)])]) := by
  refine MC.of (by decide +kernel) (Nat.le_of_ble_eq_true rfl) ?_
  intro p_ e_ s_ m_ args_ below_ meth_ c_ A_ C hr hnm
  have C : Cx p_ s_ m_ args_ meth_ c_ E A_ 1 cX2_dropParts RX2 := C
  show Wx _ _ _ _ _ _ _ _ _ _ _ _ _ _ _ _ 0 [(0, .ref h)] [] [(h, ob 1 [.ref hp, .int (iI s0), .ref hw]), (hp, ob 5 [.ref ha, .ref hb, .int (iI (n : Int))])]
  refine x_aload_n (pc' := 1) C 0 dX2_dropParts_0 rfl rfl ?_
  refine x_get (pc' := 4) C dX2_dropParts_1 rfl ff_X2_7_1 0 rfl rfl ?_
  refine x_iconst (pc' := 5) C dX2_dropParts_4 rfl ?_
  refine x_put (pc' := 8) (ws' := [(h, ob 1 [.ref hp, .int (iI s0), .ref hw]), (hp, ob 5 [.ref ha, .ref hb, .int (iI 0)])]) C dX2_dropParts_5 rfl pf_X2_17_5 1 rfl rfl rfl (Nat.le_of_ble_eq_true rfl) rfl ?_
  exact x_vret C hr dX2_dropParts_8 ⟨rfl, rfl⟩

set_option maxHeartbeats 4000000 in
set_option maxRecDepth 100000 in
theorem c_X2_dropParts_0 (l : Launch) (E : EV) (h : Nat) (hp : Nat) (ha : Nat) (hb : Nat) (hf : Nat) (ht : Nat) (hl : Nat) (n : Nat) (s0 : Int)  : MC l E yX2_dropParts cX2_dropParts 1 (none) ({ frames := 0, cells := 0, slots := 0, locals := 0 }) [.ref h] [(h, ob 9 [.ref hp, .int (iI s0), .ref hl]), (hp, ob 2 [.ref ha, .ref hb, .int (iI (n : Int)), .ref hf, .ref ht])] (fun v_ w_ => v_ = none ∧ w_ = [(h, ob 9 [.ref hp, .int (iI s0), .ref hl]), (hp, ob 2 [.ref ha, .ref hb, .int (iI 0), .ref hf, .ref ht])]) := by
  refine MC.of (by decide +kernel) (Nat.le_of_ble_eq_true rfl) ?_
  intro p_ e_ s_ m_ args_ below_ meth_ c_ A_ C hr hnm
  have C : Cx p_ s_ m_ args_ meth_ c_ E A_ 1 cX2_dropParts RX2 := C
  show Wx _ _ _ _ _ _ _ _ _ _ _ _ _ _ _ _ 0 [(0, .ref h)] [] [(h, ob 9 [.ref hp, .int (iI s0), .ref hl]), (hp, ob 2 [.ref ha, .ref hb, .int (iI (n : Int)), .ref hf, .ref ht])]
  refine x_aload_n (pc' := 1) C 0 dX2_dropParts_0 rfl rfl ?_
  refine x_get (pc' := 4) C dX2_dropParts_1 rfl ff_X2_7_9 0 rfl rfl ?_
  refine x_iconst (pc' := 5) C dX2_dropParts_4 rfl ?_
  refine x_put (pc' := 8) (ws' := [(h, ob 9 [.ref hp, .int (iI s0), .ref hl]), (hp, ob 2 [.ref ha, .ref hb, .int (iI 0), .ref hf, .ref ht])]) C dX2_dropParts_5 rfl pf_X2_17_2 1 rfl rfl rfl (Nat.le_of_ble_eq_true rfl) rfl ?_
  exact x_vret C hr dX2_dropParts_8 ⟨rfl, rfl⟩

set_option maxHeartbeats 4000000 in
set_option maxRecDepth 100000 in
theorem c_X2_dropParts_1 (l : Launch) (E : EV) (h : Nat) (hp : Nat) (ha : Nat) (hb : Nat) (hf : Nat) (ht : Nat) (hl : Nat) (n : Nat) (s0 : Int)  : MC l E yX2_dropParts cX2_dropParts 1 (none) ({ frames := 0, cells := 0, slots := 0, locals := 0 }) [.ref h] [(h, ob 8 [.ref hp, .int (iI s0), .ref hl]), (hp, ob 2 [.ref ha, .ref hb, .int (iI (n : Int)), .ref hf, .ref ht])] (fun v_ w_ => v_ = none ∧ w_ = [(h, ob 8 [.ref hp, .int (iI s0), .ref hl]), (hp, ob 2 [.ref ha, .ref hb, .int (iI 0), .ref hf, .ref ht])]) := by
  refine MC.of (by decide +kernel) (Nat.le_of_ble_eq_true rfl) ?_
  intro p_ e_ s_ m_ args_ below_ meth_ c_ A_ C hr hnm
  have C : Cx p_ s_ m_ args_ meth_ c_ E A_ 1 cX2_dropParts RX2 := C
  show Wx _ _ _ _ _ _ _ _ _ _ _ _ _ _ _ _ 0 [(0, .ref h)] [] [(h, ob 8 [.ref hp, .int (iI s0), .ref hl]), (hp, ob 2 [.ref ha, .ref hb, .int (iI (n : Int)), .ref hf, .ref ht])]
  refine x_aload_n (pc' := 1) C 0 dX2_dropParts_0 rfl rfl ?_
  refine x_get (pc' := 4) C dX2_dropParts_1 rfl ff_X2_7_8 0 rfl rfl ?_
  refine x_iconst (pc' := 5) C dX2_dropParts_4 rfl ?_
  refine x_put (pc' := 8) (ws' := [(h, ob 8 [.ref hp, .int (iI s0), .ref hl]), (hp, ob 2 [.ref ha, .ref hb, .int (iI 0), .ref hf, .ref ht])]) C dX2_dropParts_5 rfl pf_X2_17_2 1 rfl rfl rfl (Nat.le_of_ble_eq_true rfl) rfl ?_
  exact x_vret C hr dX2_dropParts_8 ⟨rfl, rfl⟩

set_option maxHeartbeats 4000000 in
set_option maxRecDepth 100000 in
theorem c_X5_dropParts (l : Launch) (E : EV) (h : Nat) (hp : Nat) (ha : Nat) (hb : Nat) (s0 : Int) (fa : Nat → Int) (fb : Nat → Int)  : MC l E yX5_dropParts cX5_dropParts 2 (none) ({ frames := 1, cells := 0, slots := 0, locals := 23 }) [.ref h] [(h, ob 4 [.ref hp, .int (iI s0)]), (hp, ob 5 [.ref ha, .ref hb, .int (iI 16)]), (ha, ia E 16 fa), (hb, ia E 16 fb)] (fun v_ w_ => ∃ (fa2 : Nat → Int) (fb2 : Nat → Int), v_ = none ∧ w_ = [(h, ob 4 [.ref hp, .int (iI s0)]), (hp, ob 5 [.ref ha, .ref hb, .int (iI 16)]), (ha, ia E 16 fa2), (hb, ia E 16 fb2)] ∧ (∀ j_ : Nat, j_ < 16 → fa2 j_ = 0 ∧ fb2 j_ = 0)) := by
  refine MC.of (by decide +kernel) (Nat.le_of_ble_eq_true rfl) ?_
  intro p_ e_ s_ m_ args_ below_ meth_ c_ A_ C hr hnm
  have C : Cx p_ s_ m_ args_ meth_ c_ E A_ 2 cX5_dropParts RX5 := C
  show Wx _ _ _ _ _ _ _ _ _ _ _ _ _ _ _ _ 0 [(0, .ref h)] [] [(h, ob 4 [.ref hp, .int (iI s0)]), (hp, ob 5 [.ref ha, .ref hb, .int (iI 16)]), (ha, ia E 16 fa), (hb, ia E 16 fb)]
  refine x_iconst (pc' := 1) C dX5_dropParts_0 rfl ?_
  refine x_istore_n (pc' := 2) (lv' := [(1, .int (iI 0)), (0, .ref h)]) C dX5_dropParts_1 rfl (by decide) rfl ?_
  refine x_lv [1, 0] rfl ?_
  refine x_loop (α := (Nat) × (Nat → Int) × (Nat → Int)) (fun a_ => (a_.1 ≤ 16) ∧ (∀ j_ : Nat, j_ < a_.1 → a_.2.1 j_ = 0 ∧ a_.2.2 j_ = 0)) (fun a_ => 16 - a_.1) (fun a_ => [(0, .ref h), (1, .int (iI (a_.1 : Int)))]) (fun a_ => [(h, ob 4 [.ref hp, .int (iI s0)]), (hp, ob 5 [.ref ha, .ref hb, .int (iI 16)]), (ha, ia E 16 a_.2.1), (hb, ia E 16 a_.2.2)]) ?_ (0, fa, fb) ?_
  · intro a_ hI_ ih2
    obtain ⟨i, f1, g1⟩ := a_
    obtain ⟨hi, hz⟩ := hI_
    replace hi : i ≤ 16 := hi
    replace hz : ∀ j_ : Nat, j_ < i → f1 j_ = 0 ∧ g1 j_ = 0 := hz
    show Wx _ _ _ _ _ _ _ _ _ _ _ _ _ _ _ _ 2 [(0, .ref h), (1, .int (iI (i : Int)))] [] [(h, ob 4 [.ref hp, .int (iI s0)]), (hp, ob 5 [.ref ha, .ref hb, .int (iI 16)]), (ha, ia E 16 f1), (hb, ia E 16 g1)]
    refine x_iload_n (pc' := 3) C 1 dX5_dropParts_2 rfl rfl ?_
    refine x_aload_n (pc' := 4) C 0 dX5_dropParts_3 rfl rfl ?_
    refine x_get (pc' := 7) C dX5_dropParts_4 rfl ff_X5_31_4 0 rfl rfl ?_
    refine x_get (pc' := 10) C dX5_dropParts_7 rfl ff_X5_9_5 1 rfl rfl ?_
    refine x_icmp_ge (pc' := 13) (tgt := 29) C dX5_dropParts_10 rfl (by decide) (by omega) (by omega) (fun c10 => ?_) (fun c10 => ?_)
    ·
      exact x_vret C hr dX5_dropParts_29 ⟨f1, g1, rfl, rfl, (show ∀ j_ : Nat, j_ < 16 → f1 j_ = 0 ∧ g1 j_ = 0 from fun j_ hj => hz j_ (by omega))⟩
    ·
      refine x_aload_n (pc' := 14) C 0 dX5_dropParts_13 rfl rfl ?_
      refine x_get (pc' := 17) C dX5_dropParts_14 rfl ff_X5_31_4 0 rfl rfl ?_
      refine x_iload_n (pc' := 18) C 1 dX5_dropParts_17 rfl rfl ?_
      refine x_iconst (pc' := 19) C dX5_dropParts_18 rfl ?_
      refine x_iconst (pc' := 20) C dX5_dropParts_19 rfl ?_
      refine x_callV (pc' := 23) (As := [.int (iI (i : Int)), .int (iI 0), .int (iI 0)]) (rest := []) (q0 := 0) C rfl rfl cv_X5_35_X6 dX5_dropParts_20 rfl (c_X6_setLine l E hp ha hb 16 i 16 0 0 f1 g1 (show 16 < 1000000 from by omega) (show i < 16 from by omega)) mm_X6_setLine (hstk := rfl) (hlen := rfl) (hcat := Nat.le_of_ble_eq_true rfl) (isC := [1, 2, 3]) (isR := [0]) (wr := [(h, ob 4 [.ref hp, .int (iI s0)])]) (hC := rfl) (hR := rfl) (hnC := rfl) (hn := rfl) (hdis := by decide) (hR1 := ⟨Nat.le_of_ble_eq_true rfl, Nat.le_of_ble_eq_true rfl⟩) (hcs := ⟨Nat.le_of_ble_eq_true rfl, Nat.le_of_ble_eq_true rfl⟩) (fun v_ w_ hp_ => ?_)
      obtain ⟨rfl, rfl⟩ := hp_
      show Wx _ _ _ _ _ _ _ _ _ _ _ _ _ _ _ _ 23 [(0, .ref h), (1, .int (iI (i : Int)))] [] [(h, ob 4 [.ref hp, .int (iI s0)]), (hp, ob 5 [.ref ha, .ref hb, .int (iI 16)]), (ha, ia E 16 (va_up f1 i 0)), (hb, ia E 16 (va_up g1 i 0))]
      refine x_iinc (pc' := 26) (lv' := [(1, .int (iI ((i : Int) + 1))), (0, .ref h)]) C 1 dX5_dropParts_23 rfl (by decide) rfl rfl ?_
      refine x_lvI (lv' := [(1, .int (iI ((i + 1 : Nat) : Int))), (0, .ref h)]) 0 rfl (by omega) rfl ?_
      refine x_goto (tgt := 2) C dX5_dropParts_26 (by decide) ?_
      refine x_lv [1, 0] rfl ?_
      exact ih2 ((i + 1), (va_up f1 i 0), (va_up g1 i 0)) ⟨(show (i + 1) ≤ 16 from by omega), (show ∀ j_ : Nat, j_ < (i + 1) → (va_up f1 i 0) j_ = 0 ∧ (va_up g1 i 0) j_ = 0 from fun j_ hj => by by_cases h : j_ = i <;> simp [va_up, h]; exact hz j_ (by omega))⟩ (show 16 - (i + 1) < 16 - i from by omega)
  · exact ⟨(show 0 ≤ 16 from by omega), (show ∀ j_ : Nat, j_ < 0 → fa j_ = 0 ∧ fb j_ = 0 from fun j_ h => absurd h (Nat.not_lt_zero _))⟩
