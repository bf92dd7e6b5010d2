set_option maxHeartbeats 4000000 in
set_option maxRecDepth 100000 in
theorem c_X11_isBelow (l : Launch) (E : EV) (x : Int) (y : Int) (hx : -2147483648 ≤ x ∧ x < 2147483648) (hy : -2147483648 ≤ y ∧ y < 2147483648) : MC l E yX11_isBelow cX11_isBelow 2 (some .boolean) ({ frames := 0, cells := 0, slots := 0, locals := 0 }) [.int (iI x), .int (iI y)] [] (fun v_ w_ => v_ = some (.int (iI (bI (0 ≤ x ∧ x < y)))) ∧ w_ = []) := by
  refine MC.of (by decide +kernel) (Nat.le_of_ble_eq_true rfl) ?_
  intro p_ e_ s_ m_ args_ below_ meth_ c_ A_ C hr hnm
  have C : Cx p_ s_ m_ args_ meth_ c_ E A_ 2 cX11_isBelow RX11 := C
  show Wx _ _ _ _ _ _ _ _ _ _ _ _ _ _ _ _ 0 [(0, .int (iI x)), (1, .int (iI y))] [] []
  refine x_iload_n (pc' := 1) C 0 dX11_isBelow_0 rfl rfl ?_
  refine x_if_lt (pc' := 4) (tgt := 13) C dX11_isBelow_1 rfl (by decide) (by omega) (fun c1 => ?_) (fun c1 => ?_)
  ·
    refine x_iconst (pc' := 14) C dX11_isBelow_13 rfl ?_
    refine x_top (b := .int (iI (bI (0 ≤ x ∧ x < y)))) (by first | rfl | rw [bI_t (by omega)] | rw [bI_f (by omega)]) ?_
    exact x_zret C (nar_bI) hr dX11_isBelow_14 ⟨rfl, rfl⟩
  ·
    refine x_iload_n (pc' := 5) C 0 dX11_isBelow_4 rfl rfl ?_
    refine x_iload_n (pc' := 6) C 1 dX11_isBelow_5 rfl rfl ?_
    refine x_icmp_ge (pc' := 9) (tgt := 13) C dX11_isBelow_6 rfl (by decide) (by omega) (by omega) (fun c6 => ?_) (fun c6 => ?_)
    ·
      refine x_iconst (pc' := 14) C dX11_isBelow_13 rfl ?_
      refine x_top (b := .int (iI (bI (0 ≤ x ∧ x < y)))) (by first | rfl | rw [bI_t (by omega)] | rw [bI_f (by omega)]) ?_
      exact x_zret C (nar_bI) hr dX11_isBelow_14 ⟨rfl, rfl⟩
    ·
      refine x_iconst (pc' := 10) C dX11_isBelow_9 rfl ?_
      refine x_goto (tgt := 14) C dX11_isBelow_10 (by decide) ?_
      refine x_top (b := .int (iI (bI (0 ≤ x ∧ x < y)))) (by first | rfl | rw [bI_t (by omega)] | rw [bI_f (by omega)]) ?_
      exact x_zret C (nar_bI) hr dX11_isBelow_14 ⟨rfl, rfl⟩

set_option maxHeartbeats 4000000 in
set_option maxRecDepth 100000 in
theorem c_X11_isLine (l : Launch) (E : EV) (x : Int) (y : Int) (hx : -2147483648 ≤ x ∧ x < 2147483648) (hy : -2147483648 ≤ y ∧ y < 2147483648) : MC l E yX11_isLine cX11_isLine 2 (some .boolean) ({ frames := 0, cells := 0, slots := 0, locals := 0 }) [.int (iI x), .int (iI y)] [] (fun v_ w_ => v_ = some (.int (iI (bI (((-100 ≤ x ∧ x ≤ 100) ∧ -100 ≤ y) ∧ y ≤ 100)))) ∧ w_ = []) := by
  refine MC.of (by decide +kernel) (Nat.le_of_ble_eq_true rfl) ?_
  intro p_ e_ s_ m_ args_ below_ meth_ c_ A_ C hr hnm
  have C : Cx p_ s_ m_ args_ meth_ c_ E A_ 2 cX11_isLine RX11 := C
  show Wx _ _ _ _ _ _ _ _ _ _ _ _ _ _ _ _ 0 [(0, .int (iI x)), (1, .int (iI y))] [] []
  refine x_iload_n (pc' := 1) C 0 dX11_isLine_0 rfl rfl ?_
  refine x_bipush (pc' := 3) C dX11_isLine_1 rfl rfl ?_
  refine x_icmp_lt (pc' := 6) (tgt := 28) C dX11_isLine_3 rfl (by decide) (by omega) (by omega) (fun c3 => ?_) (fun c3 => ?_)
  ·
    refine x_iconst (pc' := 29) C dX11_isLine_28 rfl ?_
    refine x_top (b := .int (iI (bI (((-100 ≤ x ∧ x ≤ 100) ∧ -100 ≤ y) ∧ y ≤ 100)))) (by first | rfl | rw [bI_t (by omega)] | rw [bI_f (by omega)]) ?_
    exact x_zret C (nar_bI) hr dX11_isLine_29 ⟨rfl, rfl⟩
  ·
    refine x_iload_n (pc' := 7) C 0 dX11_isLine_6 rfl rfl ?_
    refine x_bipush (pc' := 9) C dX11_isLine_7 rfl rfl ?_
    refine x_icmp_gt (pc' := 12) (tgt := 28) C dX11_isLine_9 rfl (by decide) (by omega) (by omega) (fun c9 => ?_) (fun c9 => ?_)
    ·
      refine x_iconst (pc' := 29) C dX11_isLine_28 rfl ?_
      refine x_top (b := .int (iI (bI (((-100 ≤ x ∧ x ≤ 100) ∧ -100 ≤ y) ∧ y ≤ 100)))) (by first | rfl | rw [bI_t (by omega)] | rw [bI_f (by omega)]) ?_
      exact x_zret C (nar_bI) hr dX11_isLine_29 ⟨rfl, rfl⟩
    ·
      refine x_iload_n (pc' := 13) C 1 dX11_isLine_12 rfl rfl ?_
      refine x_bipush (pc' := 15) C dX11_isLine_13 rfl rfl ?_
      refine x_icmp_lt (pc' := 18) (tgt := 28) C dX11_isLine_15 rfl (by decide) (by omega) (by omega) (fun c15 => ?_) (fun c15 => ?_)
      ·
        refine x_iconst (pc' := 29) C dX11_isLine_28 rfl ?_
        refine x_top (b := .int (iI (bI (((-100 ≤ x ∧ x ≤ 100) ∧ -100 ≤ y) ∧ y ≤ 100)))) (by first | rfl | rw [bI_t (by omega)] | rw [bI_f (by omega)]) ?_
        exact x_zret C (nar_bI) hr dX11_isLine_29 ⟨rfl, rfl⟩
      ·
        refine x_iload_n (pc' := 19) C 1 dX11_isLine_18 rfl rfl ?_
        refine x_bipush (pc' := 21) C dX11_isLine_19 rfl rfl ?_
        refine x_icmp_gt (pc' := 24) (tgt := 28) C dX11_isLine_21 rfl (by decide) (by omega) (by omega) (fun c21 => ?_) (fun c21 => ?_)
        ·
          refine x_iconst (pc' := 29) C dX11_isLine_28 rfl ?_
          refine x_top (b := .int (iI (bI (((-100 ≤ x ∧ x ≤ 100) ∧ -100 ≤ y) ∧ y ≤ 100)))) (by first | rfl | rw [bI_t (by omega)] | rw [bI_f (by omega)]) ?_
          exact x_zret C (nar_bI) hr dX11_isLine_29 ⟨rfl, rfl⟩
        ·
          refine x_iconst (pc' := 25) C dX11_isLine_24 rfl ?_
          refine x_goto (tgt := 29) C dX11_isLine_25 (by decide) ?_
          refine x_top (b := .int (iI (bI (((-100 ≤ x ∧ x ≤ 100) ∧ -100 ≤ y) ∧ y ≤ 100)))) (by first | rfl | rw [bI_t (by omega)] | rw [bI_f (by omega)]) ?_
          exact x_zret C (nar_bI) hr dX11_isLine_29 ⟨rfl, rfl⟩

set_option maxHeartbeats 4000000 in
set_option maxRecDepth 100000 in
theorem c_X12_in (l : Launch) (E : EV) (x : Int) (y : Int) (z : Int) (hx : -9223372036854775808 ≤ x ∧ x < 9223372036854775808) (hy : -9223372036854775808 ≤ y ∧ y < 9223372036854775808) (hz : -9223372036854775808 ≤ z ∧ z < 9223372036854775808) : MC l E yX12_in cX12_in 6 (some .boolean) ({ frames := 0, cells := 0, slots := 0, locals := 0 }) [.long (lI x), .long (lI y), .long (lI z)] [] (fun v_ w_ => v_ = some (.int (iI (bI (y ≤ x ∧ x ≤ z)))) ∧ w_ = []) := by
  refine MC.of (by decide +kernel) (Nat.le_of_ble_eq_true rfl) ?_
  intro p_ e_ s_ m_ args_ below_ meth_ c_ A_ C hr hnm
  have C : Cx p_ s_ m_ args_ meth_ c_ E A_ 6 cX12_in RX12 := C
  show Wx _ _ _ _ _ _ _ _ _ _ _ _ _ _ _ _ 0 [(0, .long (lI x)), (2, .long (lI y)), (4, .long (lI z))] [] []
  refine x_lload_n (pc' := 1) C 0 dX12_in_0 rfl rfl ?_
  refine x_lload_n (pc' := 2) C 1 dX12_in_1 rfl rfl ?_
  refine x_lcmp_lt (pc' := 6) (tgt := 17) C dX12_in_2 (pc1 := 3) rfl dX12_in_3 rfl (by decide) (by omega) (by omega) (fun c2 => ?_) (fun c2 => ?_)
  ·
    refine x_iconst (pc' := 18) C dX12_in_17 rfl ?_
    refine x_top (b := .int (iI (bI (y ≤ x ∧ x ≤ z)))) (by first | rfl | rw [bI_t (by omega)] | rw [bI_f (by omega)]) ?_
    exact x_zret C (nar_bI) hr dX12_in_18 ⟨rfl, rfl⟩
  ·
    refine x_lload_n (pc' := 7) C 0 dX12_in_6 rfl rfl ?_
    refine x_lload (pc' := 9) C 2 dX12_in_7 rfl rfl ?_
    refine x_lcmp_gt (pc' := 13) (tgt := 17) C dX12_in_9 (pc1 := 10) rfl dX12_in_10 rfl (by decide) (by omega) (by omega) (fun c9 => ?_) (fun c9 => ?_)
    ·
      refine x_iconst (pc' := 18) C dX12_in_17 rfl ?_
      refine x_top (b := .int (iI (bI (y ≤ x ∧ x ≤ z)))) (by first | rfl | rw [bI_t (by omega)] | rw [bI_f (by omega)]) ?_
      exact x_zret C (nar_bI) hr dX12_in_18 ⟨rfl, rfl⟩
    ·
      refine x_iconst (pc' := 14) C dX12_in_13 rfl ?_
      refine x_goto (tgt := 18) C dX12_in_14 (by decide) ?_
      refine x_top (b := .int (iI (bI (y ≤ x ∧ x ≤ z)))) (by first | rfl | rw [bI_t (by omega)] | rw [bI_f (by omega)]) ?_
      exact x_zret C (nar_bI) hr dX12_in_18 ⟨rfl, rfl⟩

set_option maxHeartbeats 4000000 in
set_option maxRecDepth 100000 in
theorem c_X12_isLine (l : Launch) (E : EV) (x : Int) (y : Int) (hx : -2147483648 ≤ x ∧ x < 2147483648) (hy : -2147483648 ≤ y ∧ y < 2147483648) : MC l E yX12_isLine cX12_isLine 2 (some .boolean) ({ frames := 1, cells := 0, slots := 0, locals := 25 }) [.int (iI x), .int (iI y)] [] (fun v_ w_ => v_ = some (.int (iI (bI ((-100 ≤ x ∧ x ≤ 100) ∧ (-100 ≤ y ∧ y ≤ 100))))) ∧ w_ = []) := by
  refine MC.of (by decide +kernel) (Nat.le_of_ble_eq_true rfl) ?_
  intro p_ e_ s_ m_ args_ below_ meth_ c_ A_ C hr hnm
  have C : Cx p_ s_ m_ args_ meth_ c_ E A_ 2 cX12_isLine RX12 := C
  show Wx _ _ _ _ _ _ _ _ _ _ _ _ _ _ _ _ 0 [(0, .int (iI x)), (1, .int (iI y))] [] []
  refine x_iload_n (pc' := 1) C 0 dX12_isLine_0 rfl rfl ?_
  refine x_i2l (pc' := 2) C dX12_isLine_1 rfl (by omega) ?_
  refine x_ldc2 (pc' := 5) (z := (-100)) C dX12_isLine_2 rfl kc_X12_55 rfl ?_
  refine x_ldc2 (pc' := 8) (z := 100) C dX12_isLine_5 rfl kc_X12_57 rfl ?_
  refine x_callS (pc' := 11) (As := [.long (lI x), .long (lI (-100)), .long (lI 100)]) (rest := []) C cs_X12_59 dX12_isLine_8 rfl (c_X12_in l E x (-100) 100 (show -9223372036854775808 ≤ x ∧ x < 9223372036854775808 from by omega) (show -9223372036854775808 ≤ (-100) ∧ (-100) < 9223372036854775808 from by omega) (show -9223372036854775808 ≤ 100 ∧ 100 < 9223372036854775808 from by omega)) mm_X12_in (hstk := rfl) (hlen := rfl) (hcat := Nat.le_of_ble_eq_true rfl) (isC := []) (isR := []) (wr := []) (hC := rfl) (hR := rfl) (hnC := rfl) (hn := rfl) (hdis := by decide) (hR1 := ⟨Nat.le_of_ble_eq_true rfl, Nat.le_of_ble_eq_true rfl⟩) (hcs := ⟨Nat.le_of_ble_eq_true rfl, Nat.le_of_ble_eq_true rfl⟩) (fun v_ w_ hp_ => ?_)
  obtain ⟨rfl, rfl⟩ := hp_
  show Wx _ _ _ _ _ _ _ _ _ _ _ _ _ _ _ _ 11 [(0, .int (iI x)), (1, .int (iI y))] [.int (iI (bI ((-100) ≤ x ∧ x ≤ 100)))] []
  refine x_if_eq (pc' := 14) (tgt := 32) C dX12_isLine_11 rfl (by decide) (bI_rng) (fun c11 => ?_) (fun c11 => ?_)
  ·
    replace c11 := bI_z c11
    refine x_iconst (pc' := 33) C dX12_isLine_32 rfl ?_
    refine x_top (b := .int (iI (bI ((-100 ≤ x ∧ x ≤ 100) ∧ (-100 ≤ y ∧ y ≤ 100))))) (by first | rfl | rw [bI_t (by omega)] | rw [bI_f (by omega)]) ?_
    exact x_zret C (nar_bI) hr dX12_isLine_33 ⟨rfl, rfl⟩
  ·
    replace c11 := bI_nz c11
    refine x_iload_n (pc' := 15) C 1 dX12_isLine_14 rfl rfl ?_
    refine x_i2l (pc' := 16) C dX12_isLine_15 rfl (by omega) ?_
    refine x_ldc2 (pc' := 19) (z := (-100)) C dX12_isLine_16 rfl kc_X12_55 rfl ?_
    refine x_ldc2 (pc' := 22) (z := 100) C dX12_isLine_19 rfl kc_X12_57 rfl ?_
    refine x_callS (pc' := 25) (As := [.long (lI y), .long (lI (-100)), .long (lI 100)]) (rest := []) C cs_X12_59 dX12_isLine_22 rfl (c_X12_in l E y (-100) 100 (show -9223372036854775808 ≤ y ∧ y < 9223372036854775808 from by omega) (show -9223372036854775808 ≤ (-100) ∧ (-100) < 9223372036854775808 from by omega) (show -9223372036854775808 ≤ 100 ∧ 100 < 9223372036854775808 from by omega)) mm_X12_in (hstk := rfl) (hlen := rfl) (hcat := Nat.le_of_ble_eq_true rfl) (isC := []) (isR := []) (wr := []) (hC := rfl) (hR := rfl) (hnC := rfl) (hn := rfl) (hdis := by decide) (hR1 := ⟨Nat.le_of_ble_eq_true rfl, Nat.le_of_ble_eq_true rfl⟩) (hcs := ⟨Nat.le_of_ble_eq_true rfl, Nat.le_of_ble_eq_true rfl⟩) (fun v_ w_ hp_ => ?_)
    obtain ⟨rfl, rfl⟩ := hp_
    show Wx _ _ _ _ _ _ _ _ _ _ _ _ _ _ _ _ 25 [(0, .int (iI x)), (1, .int (iI y))] [.int (iI (bI ((-100) ≤ y ∧ y ≤ 100)))] []
    refine x_if_eq (pc' := 28) (tgt := 32) C dX12_isLine_25 rfl (by decide) (bI_rng) (fun c25 => ?_) (fun c25 => ?_)
    ·
      replace c25 := bI_z c25
      refine x_iconst (pc' := 33) C dX12_isLine_32 rfl ?_
      refine x_top (b := .int (iI (bI ((-100 ≤ x ∧ x ≤ 100) ∧ (-100 ≤ y ∧ y ≤ 100))))) (by first | rfl | rw [bI_t (by omega)] | rw [bI_f (by omega)]) ?_
      exact x_zret C (nar_bI) hr dX12_isLine_33 ⟨rfl, rfl⟩
    ·
      replace c25 := bI_nz c25
      refine x_iconst (pc' := 29) C dX12_isLine_28 rfl ?_
      refine x_goto (tgt := 33) C dX12_isLine_29 (by decide) ?_
      refine x_top (b := .int (iI (bI ((-100 ≤ x ∧ x ≤ 100) ∧ (-100 ≤ y ∧ y ≤ 100))))) (by first | rfl | rw [bI_t (by omega)] | rw [bI_f (by omega)]) ?_
      exact x_zret C (nar_bI) hr dX12_isLine_33 ⟨rfl, rfl⟩
