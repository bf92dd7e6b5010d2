set_option maxHeartbeats 4000000 in
set_option maxRecDepth 100000 in
theorem c_X0_sharedMeasure (l : Launch) (E : EV) (x : Int) (y : Int) (hx : -1000000000000 ≤ x ∧ x ≤ 1000000000000) (hy : 0 < y ∧ y ≤ 1000000000) : MC l E yX0_sharedMeasure cX0_sharedMeasure 11 (some .long) ({ frames := 1, cells := 0, slots := 0, locals := 40 }) [.long (lI x), .long (lI y)] [] (fun v_ w_ => v_ = some (.long (lI (gI x y))) ∧ w_ = []) := by
  refine MC.of (by decide +kernel) (Nat.le_of_ble_eq_true rfl) ?_
  intro p_ e_ s_ m_ args_ below_ meth_ c_ A_ C hr hnm
  have C : Cx p_ s_ m_ args_ meth_ c_ E A_ 11 cX0_sharedMeasure RX0 := C
  show Wx _ _ _ _ _ _ _ _ _ _ _ _ _ _ _ _ 0 [(0, .long (lI x)), (2, .long (lI y))] [] []
  refine x_lload_n (pc' := 1) C 0 dX0_sharedMeasure_0 rfl rfl ?_
  refine x_mabsl (pc' := 4) C dX0_sharedMeasure_1 rfl cs_X0_20 (mm_J9_abs_067f4) (Nat.le_of_ble_eq_true rfl) (Nat.le_of_ble_eq_true rfl) ⟨Nat.le_of_ble_eq_true rfl, Nat.le_of_ble_eq_true rfl⟩ (by omega) ?_
  refine x_lstore (pc' := 6) (lv' := [(4, .long (lI (absI x))), (0, .long (lI x)), (2, .long (lI y))]) C dX0_sharedMeasure_4 rfl (by decide) rfl ?_
  refine x_lload_n (pc' := 7) C 2 dX0_sharedMeasure_6 rfl rfl ?_
  refine x_mabsl (pc' := 10) C dX0_sharedMeasure_7 rfl cs_X0_20 (mm_J9_abs_067f4) (Nat.le_of_ble_eq_true rfl) (Nat.le_of_ble_eq_true rfl) ⟨Nat.le_of_ble_eq_true rfl, Nat.le_of_ble_eq_true rfl⟩ (by omega) ?_
  refine x_lstore (pc' := 12) (lv' := [(6, .long (lI (absI y))), (4, .long (lI (absI x))), (0, .long (lI x)), (2, .long (lI y))]) C dX0_sharedMeasure_10 rfl (by decide) rfl ?_
  refine x_iconst (pc' := 13) C dX0_sharedMeasure_12 rfl ?_
  refine x_istore (pc' := 15) (lv' := [(8, .int (iI 0)), (6, .long (lI (absI y))), (4, .long (lI (absI x))), (0, .long (lI x)), (2, .long (lI y))]) C dX0_sharedMeasure_13 rfl (by decide) rfl ?_
  refine x_lv [2, 1, 0] rfl ?_
  refine x_loop (α := (Nat) × (Int) × (Int)) (fun a_ => (a_.1 ≤ 100) ∧ (0 ≤ a_.2.1 ∧ a_.2.1 ≤ 1000000000000) ∧ (0 ≤ a_.2.2 ∧ a_.2.2 ≤ 1000000000) ∧ (Nat.gcd a_.2.1.toNat a_.2.2.toNat = Nat.gcd x.natAbs y.natAbs) ∧ (a_.1 = 0 ∨ (a_.2.2 < a_.2.1 ∧ a_.2.1.toNat * a_.2.2.toNat * 2 ^ (a_.1 - 1) < 2 ^ 80))) (fun a_ => 100 - a_.1) (fun a_ => [(4, .long (lI a_.2.1)), (6, .long (lI a_.2.2)), (8, .int (iI (a_.1 : Int)))]) (fun a_ => []) ?_ (0, (absI x), (absI y)) ?_
  · intro a_ hI_ ih15
    obtain ⟨i, b, s⟩ := a_
    obtain ⟨hi, hb, hs, hg, hm⟩ := hI_
    replace hi : i ≤ 100 := hi
    replace hb : 0 ≤ b ∧ b ≤ 1000000000000 := hb
    replace hs : 0 ≤ s ∧ s ≤ 1000000000 := hs
    replace hg : Nat.gcd b.toNat s.toNat = Nat.gcd x.natAbs y.natAbs := hg
    replace hm : i = 0 ∨ (s < b ∧ b.toNat * s.toNat * 2 ^ (i - 1) < 2 ^ 80) := hm
    show Wx _ _ _ _ _ _ _ _ _ _ _ _ _ _ _ _ 15 [(4, .long (lI b)), (6, .long (lI s)), (8, .int (iI (i : Int)))] [] []
    refine x_iload (pc' := 17) C 2 dX0_sharedMeasure_15 rfl rfl ?_
    refine x_bipush (pc' := 19) C dX0_sharedMeasure_17 rfl rfl ?_
    refine x_icmp_ge (pc' := 22) (tgt := 50) C dX0_sharedMeasure_19 rfl (by decide) (by omega) (by omega) (fun c19 => ?_) (fun c19 => ?_)
    ·
      refine x_lload (pc' := 52) C 0 dX0_sharedMeasure_50 rfl rfl ?_
      refine x_top (b := .long (lI (gI x y))) (congrArg Value.long (congrArg lI (gcd_end (s := s) hb.1 (by first | assumption | exact gm_end hb.1 hs.1 (by omega) hm) hg))) ?_
      exact x_lret C hr dX0_sharedMeasure_52 ⟨rfl, rfl⟩
    ·
      refine x_lload (pc' := 24) C 1 dX0_sharedMeasure_22 rfl rfl ?_
      refine x_lconst (pc' := 25) (z := 0) C dX0_sharedMeasure_24 rfl rfl ?_
      refine x_lcmp_eq (pc' := 29) (tgt := 50) C dX0_sharedMeasure_25 (pc1 := 26) rfl dX0_sharedMeasure_26 rfl (by decide) (by omega) (by omega) (fun c25 => ?_) (fun c25 => ?_)
      ·
        refine x_lload (pc' := 52) C 0 dX0_sharedMeasure_50 rfl rfl ?_
        refine x_top (b := .long (lI (gI x y))) (congrArg Value.long (congrArg lI (gcd_end (s := s) hb.1 (by first | assumption | exact gm_end hb.1 hs.1 (by omega) hm) hg))) ?_
        exact x_lret C hr dX0_sharedMeasure_52 ⟨rfl, rfl⟩
      ·
        have hr1 := Int.emod_nonneg b (show s ≠ 0 by omega)
        have hr2 := Int.emod_lt_of_pos b (show 0 < s by omega)
        refine x_lload (pc' := 31) C 0 dX0_sharedMeasure_29 rfl rfl ?_
        refine x_lload (pc' := 33) C 1 dX0_sharedMeasure_31 rfl rfl ?_
        refine x_lrem (pc' := 34) (z := (lI (b % s))) C dX0_sharedMeasure_33 rfl (lI_ne (by omega)) (lI_rem (by omega) (by omega)) ?_
        refine x_lstore (pc' := 36) (lv' := [(9, .long (lI (b % s))), (4, .long (lI b)), (6, .long (lI s)), (8, .int (iI (i : Int)))]) C dX0_sharedMeasure_34 rfl (by decide) rfl ?_
        refine x_lload (pc' := 38) C 2 dX0_sharedMeasure_36 rfl rfl ?_
        refine x_lstore (pc' := 40) (lv' := [(4, .long (lI s)), (9, .long (lI (b % s))), (6, .long (lI s)), (8, .int (iI (i : Int)))]) C dX0_sharedMeasure_38 rfl (by decide) rfl ?_
        refine x_lload (pc' := 42) C 1 dX0_sharedMeasure_40 rfl rfl ?_
        refine x_lstore (pc' := 44) (lv' := [(6, .long (lI (b % s))), (4, .long (lI s)), (9, .long (lI (b % s))), (8, .int (iI (i : Int)))]) C dX0_sharedMeasure_42 rfl (by decide) rfl ?_
        refine x_iinc (pc' := 47) (lv' := [(8, .int (iI ((i : Int) + 1))), (6, .long (lI (b % s))), (4, .long (lI s)), (9, .long (lI (b % s)))]) C 3 dX0_sharedMeasure_44 rfl (by decide) rfl rfl ?_
        refine x_lvI (lv' := [(8, .int (iI ((i + 1 : Nat) : Int))), (6, .long (lI (b % s))), (4, .long (lI s)), (9, .long (lI (b % s)))]) 0 rfl (by omega) rfl ?_
        refine x_goto (tgt := 15) C dX0_sharedMeasure_47 (by decide) ?_
        refine x_lv [2, 1, 0] rfl ?_
        exact ih15 ((i + 1), s, (b % s)) ⟨(show (i + 1) ≤ 100 from by omega), (show 0 ≤ s ∧ s ≤ 1000000000000 from by omega), (show 0 ≤ (b % s) ∧ (b % s) ≤ 1000000000 from by omega), (show Nat.gcd s.toNat (b % s).toNat = Nat.gcd x.natAbs y.natAbs from gcd_step hb.1 (by omega) hg), (show (i + 1) = 0 ∨ ((b % s) < s ∧ s.toNat * (b % s).toNat * 2 ^ ((i + 1) - 1) < 2 ^ 80) from gm_stepI hb.1 (by omega) hm)⟩ (show 100 - (i + 1) < 100 - i from by omega)
  · exact ⟨(show 0 ≤ 100 from by omega), (show 0 ≤ (absI x) ∧ (absI x) ≤ 1000000000000 from by rw [absI_eq]; omega), (show 0 ≤ (absI y) ∧ (absI y) ≤ 1000000000 from by rw [absI_eq]; omega), (show Nat.gcd (absI x).toNat (absI y).toNat = Nat.gcd x.natAbs y.natAbs from by rw [absI_nat, absI_nat]), (show 0 = 0 ∨ ((absI y) < (absI x) ∧ (absI x).toNat * (absI y).toNat * 2 ^ (0 - 1) < 2 ^ 80) from Or.inl rfl)⟩

set_option maxHeartbeats 4000000 in
set_option maxRecDepth 100000 in
theorem c_X0_become (l : Launch) (E : EV) (h : Nat) (u : Int) (v : Int) (x : Int) (y : Int) (hx : -1000000000000 ≤ x ∧ x ≤ 1000000000000) (hy : 0 < y ∧ y ≤ 1000000000) : MC l E yX0_become cX0_become 7 (none) ({ frames := 2, cells := 0, slots := 0, locals := 70 }) [.ref h, .long (lI x), .long (lI y)] [(h, ob 0 [.long (lI u), .long (lI v)])] (fun v_ w_ => v_ = none ∧ w_ = [(h, ob 0 [.long (lI (rdA x y)), .long (lI (rdB x y))])]) := by
  refine MC.of (by decide +kernel) (Nat.le_of_ble_eq_true rfl) ?_
  intro p_ e_ s_ m_ args_ below_ meth_ c_ A_ C hr hnm
  have C : Cx p_ s_ m_ args_ meth_ c_ E A_ 7 cX0_become RX0 := C
  show Wx _ _ _ _ _ _ _ _ _ _ _ _ _ _ _ _ 0 [(0, .ref h), (1, .long (lI x)), (3, .long (lI y))] [] [(h, ob 0 [.long (lI u), .long (lI v)])]
  refine x_lload_n (pc' := 1) C 1 dX0_become_0 rfl rfl ?_
  refine x_lload_n (pc' := 2) C 2 dX0_become_1 rfl rfl ?_
  refine x_callS (pc' := 5) (As := [.long (lI x), .long (lI y)]) (rest := []) C cs_X0_16 dX0_become_2 rfl (c_X0_sharedMeasure l E x y (show -1000000000000 ≤ x ∧ x ≤ 1000000000000 from by omega) (show 0 < y ∧ y ≤ 1000000000 from by omega)) mm_X0_sharedMeasure (hstk := rfl) (hlen := rfl) (hcat := Nat.le_of_ble_eq_true rfl) (isC := []) (isR := [0]) (wr := [(h, ob 0 [.long (lI u), .long (lI v)])]) (hC := rfl) (hR := rfl) (hnC := rfl) (hn := rfl) (hdis := by decide) (hR1 := ⟨Nat.le_of_ble_eq_true rfl, Nat.le_of_ble_eq_true rfl⟩) (hcs := ⟨Nat.le_of_ble_eq_true rfl, Nat.le_of_ble_eq_true rfl⟩) (fun v_ w_ hp_ => ?_)
  obtain ⟨rfl, rfl⟩ := hp_
  show Wx _ _ _ _ _ _ _ _ _ _ _ _ _ _ _ _ 5 [(0, .ref h), (1, .long (lI x)), (3, .long (lI y))] [.long (lI (gI x y))] [(h, ob 0 [.long (lI u), .long (lI v)])]
  have hg1 := gI_pos (x := x) hy.1
  have hg2 := gI_le (x := x) hy.1
  refine x_lstore (pc' := 7) (lv' := [(5, .long (lI (gI x y))), (0, .ref h), (1, .long (lI x)), (3, .long (lI y))]) C dX0_become_5 rfl (by decide) rfl ?_
  refine x_lload (pc' := 9) C 0 dX0_become_7 rfl rfl ?_
  refine x_lconst (pc' := 10) (z := 0) C dX0_become_9 rfl rfl ?_
  refine x_lcmp_le (pc' := 14) (tgt := 20) C dX0_become_10 (pc1 := 11) rfl dX0_become_11 rfl (by decide) (by omega) (by omega) (fun c10 => ?_) (fun c10 => ?_)
  ·
    exact absurd c10 (by omega)
  ·
    refine x_lload_n (pc' := 15) C 3 dX0_become_14 rfl rfl ?_
    refine x_lconst (pc' := 16) (z := 0) C dX0_become_15 rfl rfl ?_
    refine x_lcmp_gt (pc' := 20) (tgt := 21) C dX0_become_16 (pc1 := 17) rfl dX0_become_17 rfl (by decide) (by omega) (by omega) (fun c16 => ?_) (fun c16 => ?_)
    ·
      refine x_aload_n (pc' := 22) C 1 dX0_become_21 rfl rfl ?_
      refine x_lload_n (pc' := 23) C 2 dX0_become_22 rfl rfl ?_
      refine x_lload (pc' := 25) C 0 dX0_become_23 rfl rfl ?_
      refine x_ldiv (pc' := 26) (z := (lI (rdA x y))) C dX0_become_25 rfl (lI_ne (by omega)) (lI_div (by omega) (by omega)) ?_
      refine x_put (pc' := 29) (ws' := [(h, ob 0 [.long (lI (rdA x y)), .long (lI v)])]) C dX0_become_26 rfl pf_X0_7_0 0 rfl rfl rfl (Nat.le_of_ble_eq_true rfl) rfl ?_
      refine x_aload_n (pc' := 30) C 1 dX0_become_29 rfl rfl ?_
      refine x_lload_n (pc' := 31) C 3 dX0_become_30 rfl rfl ?_
      refine x_lload (pc' := 33) C 0 dX0_become_31 rfl rfl ?_
      refine x_ldiv (pc' := 34) (z := (lI (rdB x y))) C dX0_become_33 rfl (lI_ne (by omega)) (lI_div (by omega) (by omega)) ?_
      refine x_put (pc' := 37) (ws' := [(h, ob 0 [.long (lI (rdA x y)), .long (lI (rdB x y))])]) C dX0_become_34 rfl pf_X0_13_0 0 rfl rfl rfl (Nat.le_of_ble_eq_true rfl) rfl ?_
      exact x_vret C hr dX0_become_37 ⟨rfl, rfl⟩
    ·
      exact absurd c16 (by omega)

set_option maxHeartbeats 4000000 in
set_option maxRecDepth 100000 in
theorem c_X12_tell (l : Launch) (E : EV) (md : Nat → Nat) (k : Nat) (nl : Nat) (nt : Nat) (nb : Nat) (σ : AS) (mn : Nat) (pm : Nat) (μ : AS) (x : Int) (y : Int) (hx : -1000000000000 ≤ x ∧ x ≤ 1000000000000) (hy : 0 < y ∧ y ≤ 1000000000) : MC l E yX12_tell cX12_tell 11 (some .int) ({ frames := 0, cells := 0, slots := 0, locals := 0 }) [.ref (md 0), .long (lI x), .long (lI y)] [((md 0), ob 11 [.int (iI (σ 0 0)), .int (iI (k : Int)), .ref (md 1), .int (iI (nl : Int)), .ref (md 2), .ref (md 3), .int (iI (nt : Int)), .int (iI (σ 0 4)), .ref (md 4), .int (iI (nb : Int)), .long (lI (σ 0 6)), .long (lI (σ 0 7)), .ref (md 5), .ref (md 6), .ref (md 7), .ref (md 8), .int (iI (mn : Int)), .ref (md 9), .ref (md 10), .ref (md 11), .int (iI (pm : Int)), .long (lI (μ 0 0)), .long (lI (μ 0 1)), .long (lI (μ 0 2)), .long (lI (μ 0 3))])] (fun v_ w_ => v_ = some (.int (iI 1)) ∧ w_ = [((md 0), ob 11 [.int (iI ((tl σ x y) 0 0)), .int (iI (k : Int)), .ref (md 1), .int (iI (nl : Int)), .ref (md 2), .ref (md 3), .int (iI (nt : Int)), .int (iI ((tl σ x y) 0 4)), .ref (md 4), .int (iI (nb : Int)), .long (lI ((tl σ x y) 0 6)), .long (lI ((tl σ x y) 0 7)), .ref (md 5), .ref (md 6), .ref (md 7), .ref (md 8), .int (iI (mn : Int)), .ref (md 9), .ref (md 10), .ref (md 11), .int (iI (pm : Int)), .long (lI (μ 0 0)), .long (lI (μ 0 1)), .long (lI (μ 0 2)), .long (lI (μ 0 3))])]) := by
  refine MC.of (by decide +kernel) (Nat.le_of_ble_eq_true rfl) ?_
  intro p_ e_ s_ m_ args_ below_ meth_ c_ A_ C hr hnm
  have C : Cx p_ s_ m_ args_ meth_ c_ E A_ 11 cX12_tell RX12 := C
  show Wx _ _ _ _ _ _ _ _ _ _ _ _ _ _ _ _ 0 [(0, .ref (md 0)), (1, .long (lI x)), (3, .long (lI y))] [] [((md 0), ob 11 [.int (iI (σ 0 0)), .int (iI (k : Int)), .ref (md 1), .int (iI (nl : Int)), .ref (md 2), .ref (md 3), .int (iI (nt : Int)), .int (iI (σ 0 4)), .ref (md 4), .int (iI (nb : Int)), .long (lI (σ 0 6)), .long (lI (σ 0 7)), .ref (md 5), .ref (md 6), .ref (md 7), .ref (md 8), .int (iI (mn : Int)), .ref (md 9), .ref (md 10), .ref (md 11), .int (iI (pm : Int)), .long (lI (μ 0 0)), .long (lI (μ 0 1)), .long (lI (μ 0 2)), .long (lI (μ 0 3))])]
  refine x_lload_n (pc' := 1) C 1 dX12_tell_0 rfl rfl ?_
  refine x_lconst (pc' := 2) (z := 0) C dX12_tell_1 rfl rfl ?_
  refine x_lcmp_ge (pc' := 6) (tgt := 11) C dX12_tell_2 (pc1 := 3) rfl dX12_tell_3 rfl (by decide) (by omega) (by omega) (fun c2 => ?_) (fun c2 => ?_)
  ·
    refine x_lload_n (pc' := 12) C 1 dX12_tell_11 rfl rfl ?_
    refine x_lstore (pc' := 14) (lv' := [(5, .long (lI x)), (0, .ref (md 0)), (1, .long (lI x)), (3, .long (lI y))]) C dX12_tell_12 rfl (by decide) rfl ?_
    refine x_lload_n (pc' := 15) C 3 dX12_tell_14 rfl rfl ?_
    refine x_lconst (pc' := 16) (z := 0) C dX12_tell_15 rfl rfl ?_
    refine x_lcmp_ge (pc' := 20) (tgt := 25) C dX12_tell_16 (pc1 := 17) rfl dX12_tell_17 rfl (by decide) (by omega) (by omega) (fun c16 => ?_) (fun c16 => ?_)
    ·
      refine x_lload_n (pc' := 26) C 3 dX12_tell_25 rfl rfl ?_
      refine x_lstore (pc' := 28) (lv' := [(7, .long (lI y)), (5, .long (lI x)), (0, .ref (md 0)), (1, .long (lI x)), (3, .long (lI y))]) C dX12_tell_26 rfl (by decide) rfl ?_
      refine x_lv [2, 3, 4, 1, 0] rfl ?_
      refine x_loop (α := (Int) × (Int)) (fun a_ => (0 ≤ a_.1 ∧ a_.1 ≤ 1000000000000) ∧ (0 ≤ a_.2 ∧ a_.2 ≤ 1000000000) ∧ (Nat.gcd a_.1.toNat a_.2.toNat = Nat.gcd x.natAbs y.natAbs)) (fun a_ => a_.2.toNat) (fun a_ => [(0, .ref (md 0)), (1, .long (lI x)), (3, .long (lI y)), (5, .long (lI a_.1)), (7, .long (lI a_.2))]) (fun a_ => [((md 0), ob 11 [.int (iI (σ 0 0)), .int (iI (k : Int)), .ref (md 1), .int (iI (nl : Int)), .ref (md 2), .ref (md 3), .int (iI (nt : Int)), .int (iI (σ 0 4)), .ref (md 4), .int (iI (nb : Int)), .long (lI (σ 0 6)), .long (lI (σ 0 7)), .ref (md 5), .ref (md 6), .ref (md 7), .ref (md 8), .int (iI (mn : Int)), .ref (md 9), .ref (md 10), .ref (md 11), .int (iI (pm : Int)), .long (lI (μ 0 0)), .long (lI (μ 0 1)), .long (lI (μ 0 2)), .long (lI (μ 0 3))])]) ?_ (x, y) ?_
      · intro a_ hI_ ih28
        obtain ⟨b, s⟩ := a_
        obtain ⟨hb, hs, hg⟩ := hI_
        replace hb : 0 ≤ b ∧ b ≤ 1000000000000 := hb
        replace hs : 0 ≤ s ∧ s ≤ 1000000000 := hs
        replace hg : Nat.gcd b.toNat s.toNat = Nat.gcd x.natAbs y.natAbs := hg
        show Wx _ _ _ _ _ _ _ _ _ _ _ _ _ _ _ _ 28 [(0, .ref (md 0)), (1, .long (lI x)), (3, .long (lI y)), (5, .long (lI b)), (7, .long (lI s))] [] [((md 0), ob 11 [.int (iI (σ 0 0)), .int (iI (k : Int)), .ref (md 1), .int (iI (nl : Int)), .ref (md 2), .ref (md 3), .int (iI (nt : Int)), .int (iI (σ 0 4)), .ref (md 4), .int (iI (nb : Int)), .long (lI (σ 0 6)), .long (lI (σ 0 7)), .ref (md 5), .ref (md 6), .ref (md 7), .ref (md 8), .int (iI (mn : Int)), .ref (md 9), .ref (md 10), .ref (md 11), .int (iI (pm : Int)), .long (lI (μ 0 0)), .long (lI (μ 0 1)), .long (lI (μ 0 2)), .long (lI (μ 0 3))])]
        refine x_lload (pc' := 30) C 4 dX12_tell_28 rfl rfl ?_
        refine x_lconst (pc' := 31) (z := 0) C dX12_tell_30 rfl rfl ?_
        refine x_lcmp_eq (pc' := 35) (tgt := 53) C dX12_tell_31 (pc1 := 32) rfl dX12_tell_32 rfl (by decide) (by omega) (by omega) (fun c31 => ?_) (fun c31 => ?_)
        ·
          have hbe : b = gI x y := gcd_end hb.1 c31 hg
          have hg1 := gI_pos (x := x) hy.1
          have hg2 := gI_le (x := x) hy.1
          refine x_aload_n (pc' := 54) C 0 dX12_tell_53 rfl rfl ?_
          refine x_lload_n (pc' := 55) C 2 dX12_tell_54 rfl rfl ?_
          refine x_lconst (pc' := 56) (z := 0) C dX12_tell_55 rfl rfl ?_
          refine x_lcmp_ge (pc' := 60) (tgt := 68) C dX12_tell_56 (pc1 := 57) rfl dX12_tell_57 rfl (by decide) (by omega) (by omega) (fun c56 => ?_) (fun c56 => ?_)
          ·
            refine x_lload_n (pc' := 69) C 1 dX12_tell_68 rfl rfl ?_
            refine x_lload (pc' := 71) C 3 dX12_tell_69 rfl rfl ?_
            refine x_ldiv (pc' := 72) (z := (lI (rdA x y))) C dX12_tell_71 rfl (by rw [hbe]; exact lI_ne (by omega)) (by rw [hbe]; exact lI_div (by omega) (by omega)) ?_
            refine x_put (pc' := 75) (ws' := [((md 0), ob 11 [.int (iI (σ 0 0)), .int (iI (k : Int)), .ref (md 1), .int (iI (nl : Int)), .ref (md 2), .ref (md 3), .int (iI (nt : Int)), .int (iI (σ 0 4)), .ref (md 4), .int (iI (nb : Int)), .long (lI (rdA x y)), .long (lI (σ 0 7)), .ref (md 5), .ref (md 6), .ref (md 7), .ref (md 8), .int (iI (mn : Int)), .ref (md 9), .ref (md 10), .ref (md 11), .int (iI (pm : Int)), .long (lI (μ 0 0)), .long (lI (μ 0 1)), .long (lI (μ 0 2)), .long (lI (μ 0 3))])]) C dX12_tell_72 rfl pf_X12_128_11 0 rfl rfl rfl (Nat.le_of_ble_eq_true rfl) rfl ?_
            refine x_aload_n (pc' := 76) C 0 dX12_tell_75 rfl rfl ?_
            refine x_lload_n (pc' := 77) C 2 dX12_tell_76 rfl rfl ?_
            refine x_lconst (pc' := 78) (z := 0) C dX12_tell_77 rfl rfl ?_
            refine x_lcmp_ge (pc' := 82) (tgt := 90) C dX12_tell_78 (pc1 := 79) rfl dX12_tell_79 rfl (by decide) (by omega) (by omega) (fun c78 => ?_) (fun c78 => ?_)
            ·
              refine x_lload_n (pc' := 91) C 2 dX12_tell_90 rfl rfl ?_
              refine x_lload (pc' := 93) C 3 dX12_tell_91 rfl rfl ?_
              refine x_ldiv (pc' := 94) (z := (lI (rdB x y))) C dX12_tell_93 rfl (by rw [hbe]; exact lI_ne (by omega)) (by rw [hbe]; exact lI_div (by omega) (by omega)) ?_
              refine x_put (pc' := 97) (ws' := [((md 0), ob 11 [.int (iI (σ 0 0)), .int (iI (k : Int)), .ref (md 1), .int (iI (nl : Int)), .ref (md 2), .ref (md 3), .int (iI (nt : Int)), .int (iI (σ 0 4)), .ref (md 4), .int (iI (nb : Int)), .long (lI (rdA x y)), .long (lI (rdB x y)), .ref (md 5), .ref (md 6), .ref (md 7), .ref (md 8), .int (iI (mn : Int)), .ref (md 9), .ref (md 10), .ref (md 11), .int (iI (pm : Int)), .long (lI (μ 0 0)), .long (lI (μ 0 1)), .long (lI (μ 0 2)), .long (lI (μ 0 3))])]) C dX12_tell_94 rfl pf_X12_29_11 0 rfl rfl rfl (Nat.le_of_ble_eq_true rfl) rfl ?_
              refine x_iconst (pc' := 98) C dX12_tell_97 rfl ?_
              refine x_ws (ws' := [((md 0), ob 11 [.int (iI ((tl σ x y) 0 0)), .int (iI (k : Int)), .ref (md 1), .int (iI (nl : Int)), .ref (md 2), .ref (md 3), .int (iI (nt : Int)), .int (iI ((tl σ x y) 0 4)), .ref (md 4), .int (iI (nb : Int)), .long (lI ((tl σ x y) 0 6)), .long (lI ((tl σ x y) 0 7)), .ref (md 5), .ref (md 6), .ref (md 7), .ref (md 8), .int (iI (mn : Int)), .ref (md 9), .ref (md 10), .ref (md 11), .int (iI (pm : Int)), .long (lI (μ 0 0)), .long (lI (μ 0 1)), .long (lI (μ 0 2)), .long (lI (μ 0 3))])]) (rfl) ?_
              exact x_iret C hr dX12_tell_98 ⟨rfl, rfl⟩
            ·
              exact absurd c78 (by omega)
          ·
            exact absurd c56 (by omega)
        ·
          have hr1 := Int.emod_nonneg b (show s ≠ 0 by omega)
          have hr2 := Int.emod_lt_of_pos b (show 0 < s by omega)
          refine x_lload (pc' := 37) C 3 dX12_tell_35 rfl rfl ?_
          refine x_lload (pc' := 39) C 4 dX12_tell_37 rfl rfl ?_
          refine x_lrem (pc' := 40) (z := (lI (b % s))) C dX12_tell_39 rfl (lI_ne (by omega)) (lI_rem (by omega) (by omega)) ?_
          refine x_lstore (pc' := 42) (lv' := [(9, .long (lI (b % s))), (0, .ref (md 0)), (1, .long (lI x)), (3, .long (lI y)), (5, .long (lI b)), (7, .long (lI s))]) C dX12_tell_40 rfl (by decide) rfl ?_
          refine x_lload (pc' := 44) C 5 dX12_tell_42 rfl rfl ?_
          refine x_lstore (pc' := 46) (lv' := [(5, .long (lI s)), (9, .long (lI (b % s))), (0, .ref (md 0)), (1, .long (lI x)), (3, .long (lI y)), (7, .long (lI s))]) C dX12_tell_44 rfl (by decide) rfl ?_
          refine x_lload (pc' := 48) C 1 dX12_tell_46 rfl rfl ?_
          refine x_lstore (pc' := 50) (lv' := [(7, .long (lI (b % s))), (5, .long (lI s)), (9, .long (lI (b % s))), (0, .ref (md 0)), (1, .long (lI x)), (3, .long (lI y))]) C dX12_tell_48 rfl (by decide) rfl ?_
          refine x_goto (tgt := 28) C dX12_tell_50 (by decide) ?_
          refine x_lv [3, 4, 5, 1, 0] rfl ?_
          exact ih28 (s, (b % s)) ⟨(show 0 ≤ s ∧ s ≤ 1000000000000 from by omega), (show 0 ≤ (b % s) ∧ (b % s) ≤ 1000000000 from by omega), (show Nat.gcd s.toNat (b % s).toNat = Nat.gcd x.natAbs y.natAbs from gcd_step hb.1 (by omega) hg)⟩ (show (b % s).toNat < s.toNat from by omega)
      · exact ⟨(show 0 ≤ x ∧ x ≤ 1000000000000 from by omega), (show 0 ≤ y ∧ y ≤ 1000000000 from by omega), (show Nat.gcd x.toNat y.toNat = Nat.gcd x.natAbs y.natAbs from by first | rw [show x.toNat = x.natAbs by omega, show y.toNat = y.natAbs by omega] | rw [show (-x).toNat = x.natAbs by omega, show y.toNat = y.natAbs by omega])⟩
    ·
      exact absurd c16 (by omega)
  ·
    refine x_lload_n (pc' := 7) C 1 dX12_tell_6 rfl rfl ?_
    refine x_lneg (pc' := 8) C dX12_tell_7 rfl ?_
    refine x_goto (tgt := 12) C dX12_tell_8 (by decide) ?_
    refine x_lstore (pc' := 14) (lv' := [(5, .long (lI (-x))), (0, .ref (md 0)), (1, .long (lI x)), (3, .long (lI y))]) C dX12_tell_12 rfl (by decide) rfl ?_
    refine x_lload_n (pc' := 15) C 3 dX12_tell_14 rfl rfl ?_
    refine x_lconst (pc' := 16) (z := 0) C dX12_tell_15 rfl rfl ?_
    refine x_lcmp_ge (pc' := 20) (tgt := 25) C dX12_tell_16 (pc1 := 17) rfl dX12_tell_17 rfl (by decide) (by omega) (by omega) (fun c16 => ?_) (fun c16 => ?_)
    ·
      refine x_lload_n (pc' := 26) C 3 dX12_tell_25 rfl rfl ?_
      refine x_lstore (pc' := 28) (lv' := [(7, .long (lI y)), (5, .long (lI (-x))), (0, .ref (md 0)), (1, .long (lI x)), (3, .long (lI y))]) C dX12_tell_26 rfl (by decide) rfl ?_
      refine x_lv [2, 3, 4, 1, 0] rfl ?_
      refine x_loop (α := (Int) × (Int)) (fun a_ => (0 ≤ a_.1 ∧ a_.1 ≤ 1000000000000) ∧ (0 ≤ a_.2 ∧ a_.2 ≤ 1000000000) ∧ (Nat.gcd a_.1.toNat a_.2.toNat = Nat.gcd x.natAbs y.natAbs)) (fun a_ => a_.2.toNat) (fun a_ => [(0, .ref (md 0)), (1, .long (lI x)), (3, .long (lI y)), (5, .long (lI a_.1)), (7, .long (lI a_.2))]) (fun a_ => [((md 0), ob 11 [.int (iI (σ 0 0)), .int (iI (k : Int)), .ref (md 1), .int (iI (nl : Int)), .ref (md 2), .ref (md 3), .int (iI (nt : Int)), .int (iI (σ 0 4)), .ref (md 4), .int (iI (nb : Int)), .long (lI (σ 0 6)), .long (lI (σ 0 7)), .ref (md 5), .ref (md 6), .ref (md 7), .ref (md 8), .int (iI (mn : Int)), .ref (md 9), .ref (md 10), .ref (md 11), .int (iI (pm : Int)), .long (lI (μ 0 0)), .long (lI (μ 0 1)), .long (lI (μ 0 2)), .long (lI (μ 0 3))])]) ?_ ((-x), y) ?_
      · intro a_ hI_ ih28
        obtain ⟨b, s⟩ := a_
        obtain ⟨hb, hs, hg⟩ := hI_
        replace hb : 0 ≤ b ∧ b ≤ 1000000000000 := hb
        replace hs : 0 ≤ s ∧ s ≤ 1000000000 := hs
        replace hg : Nat.gcd b.toNat s.toNat = Nat.gcd x.natAbs y.natAbs := hg
        show Wx _ _ _ _ _ _ _ _ _ _ _ _ _ _ _ _ 28 [(0, .ref (md 0)), (1, .long (lI x)), (3, .long (lI y)), (5, .long (lI b)), (7, .long (lI s))] [] [((md 0), ob 11 [.int (iI (σ 0 0)), .int (iI (k : Int)), .ref (md 1), .int (iI (nl : Int)), .ref (md 2), .ref (md 3), .int (iI (nt : Int)), .int (iI (σ 0 4)), .ref (md 4), .int (iI (nb : Int)), .long (lI (σ 0 6)), .long (lI (σ 0 7)), .ref (md 5), .ref (md 6), .ref (md 7), .ref (md 8), .int (iI (mn : Int)), .ref (md 9), .ref (md 10), .ref (md 11), .int (iI (pm : Int)), .long (lI (μ 0 0)), .long (lI (μ 0 1)), .long (lI (μ 0 2)), .long (lI (μ 0 3))])]
        refine x_lload (pc' := 30) C 4 dX12_tell_28 rfl rfl ?_
        refine x_lconst (pc' := 31) (z := 0) C dX12_tell_30 rfl rfl ?_
        refine x_lcmp_eq (pc' := 35) (tgt := 53) C dX12_tell_31 (pc1 := 32) rfl dX12_tell_32 rfl (by decide) (by omega) (by omega) (fun c31 => ?_) (fun c31 => ?_)
        ·
          have hbe : b = gI x y := gcd_end hb.1 c31 hg
          have hg1 := gI_pos (x := x) hy.1
          have hg2 := gI_le (x := x) hy.1
          refine x_aload_n (pc' := 54) C 0 dX12_tell_53 rfl rfl ?_
          refine x_lload_n (pc' := 55) C 2 dX12_tell_54 rfl rfl ?_
          refine x_lconst (pc' := 56) (z := 0) C dX12_tell_55 rfl rfl ?_
          refine x_lcmp_ge (pc' := 60) (tgt := 68) C dX12_tell_56 (pc1 := 57) rfl dX12_tell_57 rfl (by decide) (by omega) (by omega) (fun c56 => ?_) (fun c56 => ?_)
          ·
            refine x_lload_n (pc' := 69) C 1 dX12_tell_68 rfl rfl ?_
            refine x_lload (pc' := 71) C 3 dX12_tell_69 rfl rfl ?_
            refine x_ldiv (pc' := 72) (z := (lI (rdA x y))) C dX12_tell_71 rfl (by rw [hbe]; exact lI_ne (by omega)) (by rw [hbe]; exact lI_div (by omega) (by omega)) ?_
            refine x_put (pc' := 75) (ws' := [((md 0), ob 11 [.int (iI (σ 0 0)), .int (iI (k : Int)), .ref (md 1), .int (iI (nl : Int)), .ref (md 2), .ref (md 3), .int (iI (nt : Int)), .int (iI (σ 0 4)), .ref (md 4), .int (iI (nb : Int)), .long (lI (rdA x y)), .long (lI (σ 0 7)), .ref (md 5), .ref (md 6), .ref (md 7), .ref (md 8), .int (iI (mn : Int)), .ref (md 9), .ref (md 10), .ref (md 11), .int (iI (pm : Int)), .long (lI (μ 0 0)), .long (lI (μ 0 1)), .long (lI (μ 0 2)), .long (lI (μ 0 3))])]) C dX12_tell_72 rfl pf_X12_128_11 0 rfl rfl rfl (Nat.le_of_ble_eq_true rfl) rfl ?_
            refine x_aload_n (pc' := 76) C 0 dX12_tell_75 rfl rfl ?_
            refine x_lload_n (pc' := 77) C 2 dX12_tell_76 rfl rfl ?_
            refine x_lconst (pc' := 78) (z := 0) C dX12_tell_77 rfl rfl ?_
            refine x_lcmp_ge (pc' := 82) (tgt := 90) C dX12_tell_78 (pc1 := 79) rfl dX12_tell_79 rfl (by decide) (by omega) (by omega) (fun c78 => ?_) (fun c78 => ?_)
            ·
              refine x_lload_n (pc' := 91) C 2 dX12_tell_90 rfl rfl ?_
              refine x_lload (pc' := 93) C 3 dX12_tell_91 rfl rfl ?_
              refine x_ldiv (pc' := 94) (z := (lI (rdB x y))) C dX12_tell_93 rfl (by rw [hbe]; exact lI_ne (by omega)) (by rw [hbe]; exact lI_div (by omega) (by omega)) ?_
              refine x_put (pc' := 97) (ws' := [((md 0), ob 11 [.int (iI (σ 0 0)), .int (iI (k : Int)), .ref (md 1), .int (iI (nl : Int)), .ref (md 2), .ref (md 3), .int (iI (nt : Int)), .int (iI (σ 0 4)), .ref (md 4), .int (iI (nb : Int)), .long (lI (rdA x y)), .long (lI (rdB x y)), .ref (md 5), .ref (md 6), .ref (md 7), .ref (md 8), .int (iI (mn : Int)), .ref (md 9), .ref (md 10), .ref (md 11), .int (iI (pm : Int)), .long (lI (μ 0 0)), .long (lI (μ 0 1)), .long (lI (μ 0 2)), .long (lI (μ 0 3))])]) C dX12_tell_94 rfl pf_X12_29_11 0 rfl rfl rfl (Nat.le_of_ble_eq_true rfl) rfl ?_
              refine x_iconst (pc' := 98) C dX12_tell_97 rfl ?_
              refine x_ws (ws' := [((md 0), ob 11 [.int (iI ((tl σ x y) 0 0)), .int (iI (k : Int)), .ref (md 1), .int (iI (nl : Int)), .ref (md 2), .ref (md 3), .int (iI (nt : Int)), .int (iI ((tl σ x y) 0 4)), .ref (md 4), .int (iI (nb : Int)), .long (lI ((tl σ x y) 0 6)), .long (lI ((tl σ x y) 0 7)), .ref (md 5), .ref (md 6), .ref (md 7), .ref (md 8), .int (iI (mn : Int)), .ref (md 9), .ref (md 10), .ref (md 11), .int (iI (pm : Int)), .long (lI (μ 0 0)), .long (lI (μ 0 1)), .long (lI (μ 0 2)), .long (lI (μ 0 3))])]) (rfl) ?_
              exact x_iret C hr dX12_tell_98 ⟨rfl, rfl⟩
            ·
              exact absurd c78 (by omega)
          ·
            exact absurd c56 (by omega)
        ·
          have hr1 := Int.emod_nonneg b (show s ≠ 0 by omega)
          have hr2 := Int.emod_lt_of_pos b (show 0 < s by omega)
          refine x_lload (pc' := 37) C 3 dX12_tell_35 rfl rfl ?_
          refine x_lload (pc' := 39) C 4 dX12_tell_37 rfl rfl ?_
          refine x_lrem (pc' := 40) (z := (lI (b % s))) C dX12_tell_39 rfl (lI_ne (by omega)) (lI_rem (by omega) (by omega)) ?_
          refine x_lstore (pc' := 42) (lv' := [(9, .long (lI (b % s))), (0, .ref (md 0)), (1, .long (lI x)), (3, .long (lI y)), (5, .long (lI b)), (7, .long (lI s))]) C dX12_tell_40 rfl (by decide) rfl ?_
          refine x_lload (pc' := 44) C 5 dX12_tell_42 rfl rfl ?_
          refine x_lstore (pc' := 46) (lv' := [(5, .long (lI s)), (9, .long (lI (b % s))), (0, .ref (md 0)), (1, .long (lI x)), (3, .long (lI y)), (7, .long (lI s))]) C dX12_tell_44 rfl (by decide) rfl ?_
          refine x_lload (pc' := 48) C 1 dX12_tell_46 rfl rfl ?_
          refine x_lstore (pc' := 50) (lv' := [(7, .long (lI (b % s))), (5, .long (lI s)), (9, .long (lI (b % s))), (0, .ref (md 0)), (1, .long (lI x)), (3, .long (lI y))]) C dX12_tell_48 rfl (by decide) rfl ?_
          refine x_goto (tgt := 28) C dX12_tell_50 (by decide) ?_
          refine x_lv [3, 4, 5, 1, 0] rfl ?_
          exact ih28 (s, (b % s)) ⟨(show 0 ≤ s ∧ s ≤ 1000000000000 from by omega), (show 0 ≤ (b % s) ∧ (b % s) ≤ 1000000000 from by omega), (show Nat.gcd s.toNat (b % s).toNat = Nat.gcd x.natAbs y.natAbs from gcd_step hb.1 (by omega) hg)⟩ (show (b % s).toNat < s.toNat from by omega)
      · exact ⟨(show 0 ≤ (-x) ∧ (-x) ≤ 1000000000000 from by omega), (show 0 ≤ y ∧ y ≤ 1000000000 from by omega), (show Nat.gcd (-x).toNat y.toNat = Nat.gcd x.natAbs y.natAbs from by first | rw [show x.toNat = x.natAbs by omega, show y.toNat = y.natAbs by omega] | rw [show (-x).toNat = x.natAbs by omega, show y.toNat = y.natAbs by omega])⟩
    ·
      exact absurd c16 (by omega)

set_option maxHeartbeats 4000000 in
set_option maxRecDepth 100000 in
theorem c_X8_indexOf (l : Launch) (E : EV) (h : Nat) (hb : Nat) (ha : Nat) (hc : Nat) (n : Nat) (sg : Int) (x : Int) (fb : Nat → Int) (xs : List Nat) (hn : n ≤ 2002) (hx : -2147483648 ≤ x ∧ x < 2147483648) (hlen : xs.length = n) (hls : LsA fb xs) (hso : xs.Pairwise (· ≤ ·)) (hbd : ∀ j_ (h_ : j_ < xs.length), xs[j_] < 1000000) : MC l E yX8_indexOf cX8_indexOf 6 (some .int) ({ frames := 0, cells := 0, slots := 0, locals := 0 }) [.ref h, .int (iI x)] [(h, ob 7 [.ref hb, .ref ha, .ref hc, .int (iI (n : Int)), .int (iI sg)]), (hb, ia E 2002 fb)] (fun v_ w_ => ∃ (r : Int), v_ = some (.int (iI r)) ∧ w_ = [(h, ob 7 [.ref hb, .ref ha, .ref hc, .int (iI (n : Int)), .int (iI sg)]), (hb, ia E 2002 fb)] ∧ ((r = -1 ∧ ∀ j_ (h_ : j_ < xs.length), (xs[j_] : Int) ≠ x) ∨ ∃ (i_ : Nat) (h_ : i_ < xs.length), r = (i_ : Int) ∧ (xs[i_] : Int) = x)) := by
  refine MC.of (by decide +kernel) (Nat.le_of_ble_eq_true rfl) ?_
  intro p_ e_ s_ m_ args_ below_ meth_ c_ A_ C hr hnm
  have C : Cx p_ s_ m_ args_ meth_ c_ E A_ 6 cX8_indexOf RX8 := C
  show Wx _ _ _ _ _ _ _ _ _ _ _ _ _ _ _ _ 0 [(0, .ref h), (1, .int (iI x))] [] [(h, ob 7 [.ref hb, .ref ha, .ref hc, .int (iI (n : Int)), .int (iI sg)]), (hb, ia E 2002 fb)]
  refine x_iconst (pc' := 1) C dX8_indexOf_0 rfl ?_
  refine x_istore_n (pc' := 2) (lv' := [(2, .int (iI 0)), (0, .ref h), (1, .int (iI x))]) C dX8_indexOf_1 rfl (by decide) rfl ?_
  refine x_aload_n (pc' := 3) C 1 dX8_indexOf_2 rfl rfl ?_
  refine x_get (pc' := 6) C dX8_indexOf_3 rfl ff_X8_21_7 0 rfl rfl ?_
  refine x_iconst (pc' := 7) C dX8_indexOf_6 rfl ?_
  refine x_isub (pc' := 8) C dX8_indexOf_7 rfl ?_
  refine x_istore_n (pc' := 9) (lv' := [(3, .int (iI ((n : Int) - 1))), (2, .int (iI 0)), (0, .ref h), (1, .int (iI x))]) C dX8_indexOf_8 rfl (by decide) rfl ?_
  refine x_iconst (pc' := 10) C dX8_indexOf_9 rfl ?_
  refine x_istore (pc' := 12) (lv' := [(4, .int (iI 0)), (3, .int (iI ((n : Int) - 1))), (2, .int (iI 0)), (0, .ref h), (1, .int (iI x))]) C dX8_indexOf_10 rfl (by decide) rfl ?_
  refine x_lv [3, 4, 2, 1, 0] rfl ?_
  refine x_loop (α := (Int) × (Int) × (Nat)) (fun a_ => (0 ≤ a_.1 ∧ a_.1 ≤ a_.2.1 + 1 ∧ a_.2.1 < (n : Int)) ∧ ((a_.2.2 : Int) + (a_.2.1 - a_.1 + 1) ≤ 2002) ∧ (∀ j_ (h_ : j_ < xs.length), (j_ : Int) < a_.1 → (xs[j_] : Int) < x) ∧ (∀ j_ (h_ : j_ < xs.length), a_.2.1 < (j_ : Int) → x < (xs[j_] : Int))) (fun a_ => (a_.2.1 - a_.1 + 1).toNat) (fun a_ => [(0, .ref h), (1, .int (iI x)), (2, .int (iI a_.1)), (3, .int (iI a_.2.1)), (4, .int (iI (a_.2.2 : Int)))]) (fun a_ => [(h, ob 7 [.ref hb, .ref ha, .ref hc, .int (iI (n : Int)), .int (iI sg)]), (hb, ia E 2002 fb)]) ?_ (0, ((n : Int) - 1), 0) ?_
  · intro a_ hI_ ih12
    obtain ⟨lo, hi, st⟩ := a_
    obtain ⟨h1, h2, h3, h4⟩ := hI_
    replace h1 : 0 ≤ lo ∧ lo ≤ hi + 1 ∧ hi < (n : Int) := h1
    replace h2 : (st : Int) + (hi - lo + 1) ≤ 2002 := h2
    replace h3 : ∀ j_ (h_ : j_ < xs.length), (j_ : Int) < lo → (xs[j_] : Int) < x := h3
    replace h4 : ∀ j_ (h_ : j_ < xs.length), hi < (j_ : Int) → x < (xs[j_] : Int) := h4
    show Wx _ _ _ _ _ _ _ _ _ _ _ _ _ _ _ _ 12 [(0, .ref h), (1, .int (iI x)), (2, .int (iI lo)), (3, .int (iI hi)), (4, .int (iI (st : Int)))] [] [(h, ob 7 [.ref hb, .ref ha, .ref hc, .int (iI (n : Int)), .int (iI sg)]), (hb, ia E 2002 fb)]
    refine x_iload (pc' := 14) C 4 dX8_indexOf_12 rfl rfl ?_
    refine x_sipush (pc' := 17) C dX8_indexOf_14 rfl rfl ?_
    refine x_icmp_ge (pc' := 20) (tgt := 76) C dX8_indexOf_17 rfl (by decide) (by omega) (by omega) (fun c17 => ?_) (fun c17 => ?_)
    ·
      refine x_iconst (pc' := 77) C dX8_indexOf_76 rfl ?_
      exact x_iret C hr dX8_indexOf_77 ⟨(-1), rfl, rfl, (show ((-1) = -1 ∧ ∀ j_ (h_ : j_ < xs.length), (xs[j_] : Int) ≠ x) ∨ ∃ (i_ : Nat) (h_ : i_ < xs.length), (-1) = (i_ : Int) ∧ (xs[i_] : Int) = x from Or.inl ⟨rfl, bin_no h3 h4 (by omega)⟩)⟩
    ·
      refine x_iload_n (pc' := 21) C 2 dX8_indexOf_20 rfl rfl ?_
      refine x_iload_n (pc' := 22) C 3 dX8_indexOf_21 rfl rfl ?_
      refine x_icmp_gt (pc' := 25) (tgt := 76) C dX8_indexOf_22 rfl (by decide) (by omega) (by omega) (fun c22 => ?_) (fun c22 => ?_)
      ·
        refine x_iconst (pc' := 77) C dX8_indexOf_76 rfl ?_
        exact x_iret C hr dX8_indexOf_77 ⟨(-1), rfl, rfl, (show ((-1) = -1 ∧ ∀ j_ (h_ : j_ < xs.length), (xs[j_] : Int) ≠ x) ∨ ∃ (i_ : Nat) (h_ : i_ < xs.length), (-1) = (i_ : Int) ∧ (xs[i_] : Int) = x from Or.inl ⟨rfl, bin_no h3 h4 (by omega)⟩)⟩
      ·
        refine x_iload_n (pc' := 26) C 2 dX8_indexOf_25 rfl rfl ?_
        refine x_iload_n (pc' := 27) C 3 dX8_indexOf_26 rfl rfl ?_
        refine x_iadd (pc' := 28) C dX8_indexOf_27 rfl ?_
        refine x_iconst (pc' := 29) C dX8_indexOf_28 rfl ?_
        refine x_idiv (pc' := 30) (z := (iI ((((lo + hi) / 2).toNat : Nat) : Int))) C dX8_indexOf_29 rfl (by decide) (idx_half (by omega)) ?_
        refine x_istore (pc' := 32) (lv' := [(5, .int (iI ((((lo + hi) / 2).toNat : Nat) : Int))), (0, .ref h), (1, .int (iI x)), (2, .int (iI lo)), (3, .int (iI hi)), (4, .int (iI (st : Int)))]) C dX8_indexOf_30 rfl (by decide) rfl ?_
        have hm_ : ((lo + hi) / 2).toNat < xs.length := by omega
        have hl1 := hls _ hm_
        have hb1 := hbd _ hm_
        refine x_aload_n (pc' := 33) C 1 dX8_indexOf_32 rfl rfl ?_
        refine x_get (pc' := 36) C dX8_indexOf_33 rfl ff_X8_11_7 0 rfl rfl ?_
        refine x_iload (pc' := 38) C 0 dX8_indexOf_36 rfl rfl ?_
        refine x_iald (pc' := 39) C (((lo + hi) / 2).toNat) dX8_indexOf_38 rfl 1 rfl (by omega) (by omega) (by omega) ?_
        refine x_top (b := .int (iI ((xs[((lo + hi) / 2).toNat] : Nat) : Int))) (by rw [hl1]) ?_
        refine x_iload_n (pc' := 40) C 2 dX8_indexOf_39 rfl rfl ?_
        refine x_icmp_ne (pc' := 43) (tgt := 46) C dX8_indexOf_40 rfl (by decide) (by omega) (by omega) (fun c40 => ?_) (fun c40 => ?_)
        ·
          refine x_aload_n (pc' := 47) C 1 dX8_indexOf_46 rfl rfl ?_
          refine x_get (pc' := 50) C dX8_indexOf_47 rfl ff_X8_11_7 0 rfl rfl ?_
          refine x_iload (pc' := 52) C 0 dX8_indexOf_50 rfl rfl ?_
          refine x_iald (pc' := 53) C (((lo + hi) / 2).toNat) dX8_indexOf_52 rfl 1 rfl (by omega) (by omega) (by omega) ?_
          refine x_top (b := .int (iI ((xs[((lo + hi) / 2).toNat] : Nat) : Int))) (by rw [hl1]) ?_
          refine x_iload_n (pc' := 54) C 2 dX8_indexOf_53 rfl rfl ?_
          refine x_icmp_ge (pc' := 57) (tgt := 65) C dX8_indexOf_54 rfl (by decide) (by omega) (by omega) (fun c54 => ?_) (fun c54 => ?_)
          ·
            refine x_iload (pc' := 67) C 0 dX8_indexOf_65 rfl rfl ?_
            refine x_iconst (pc' := 68) C dX8_indexOf_67 rfl ?_
            refine x_isub (pc' := 69) C dX8_indexOf_68 rfl ?_
            refine x_istore_n (pc' := 70) (lv' := [(3, .int (iI (((((lo + hi) / 2).toNat : Nat) : Int) - 1))), (5, .int (iI ((((lo + hi) / 2).toNat : Nat) : Int))), (0, .ref h), (1, .int (iI x)), (2, .int (iI lo)), (4, .int (iI (st : Int)))]) C dX8_indexOf_69 rfl (by decide) rfl ?_
            refine x_iinc (pc' := 73) (lv' := [(4, .int (iI ((st : Int) + 1))), (3, .int (iI (((((lo + hi) / 2).toNat : Nat) : Int) - 1))), (5, .int (iI ((((lo + hi) / 2).toNat : Nat) : Int))), (0, .ref h), (1, .int (iI x)), (2, .int (iI lo))]) C 5 dX8_indexOf_70 rfl (by decide) rfl rfl ?_
            refine x_lvI (lv' := [(4, .int (iI ((st + 1 : Nat) : Int))), (3, .int (iI (((((lo + hi) / 2).toNat : Nat) : Int) - 1))), (5, .int (iI ((((lo + hi) / 2).toNat : Nat) : Int))), (0, .ref h), (1, .int (iI x)), (2, .int (iI lo))]) 0 rfl (by omega) rfl ?_
            refine x_goto (tgt := 12) C dX8_indexOf_73 (by decide) ?_
            refine x_lv [3, 4, 5, 1, 0] rfl ?_
            exact ih12 (lo, (((((lo + hi) / 2).toNat : Nat) : Int) - 1), (st + 1)) ⟨(show 0 ≤ lo ∧ lo ≤ (((((lo + hi) / 2).toNat : Nat) : Int) - 1) + 1 ∧ (((((lo + hi) / 2).toNat : Nat) : Int) - 1) < (n : Int) from by omega), (show ((st + 1) : Int) + ((((((lo + hi) / 2).toNat : Nat) : Int) - 1) - lo + 1) ≤ 2002 from by omega), (show ∀ j_ (h_ : j_ < xs.length), (j_ : Int) < lo → (xs[j_] : Int) < x from by first | exact h3 | exact bin_lo hso hm_ (by omega) (by omega)), (show ∀ j_ (h_ : j_ < xs.length), (((((lo + hi) / 2).toNat : Nat) : Int) - 1) < (j_ : Int) → x < (xs[j_] : Int) from by first | exact h4 | exact bin_hi hso hm_ (by omega) (by omega))⟩ (show ((((((lo + hi) / 2).toNat : Nat) : Int) - 1) - lo + 1).toNat < (hi - lo + 1).toNat from by omega)
          ·
            refine x_iload (pc' := 59) C 0 dX8_indexOf_57 rfl rfl ?_
            refine x_iconst (pc' := 60) C dX8_indexOf_59 rfl ?_
            refine x_iadd (pc' := 61) C dX8_indexOf_60 rfl ?_
            refine x_istore_n (pc' := 62) (lv' := [(2, .int (iI (((((lo + hi) / 2).toNat : Nat) : Int) + 1))), (5, .int (iI ((((lo + hi) / 2).toNat : Nat) : Int))), (0, .ref h), (1, .int (iI x)), (3, .int (iI hi)), (4, .int (iI (st : Int)))]) C dX8_indexOf_61 rfl (by decide) rfl ?_
            refine x_goto (tgt := 70) C dX8_indexOf_62 (by decide) ?_
            refine x_iinc (pc' := 73) (lv' := [(4, .int (iI ((st : Int) + 1))), (2, .int (iI (((((lo + hi) / 2).toNat : Nat) : Int) + 1))), (5, .int (iI ((((lo + hi) / 2).toNat : Nat) : Int))), (0, .ref h), (1, .int (iI x)), (3, .int (iI hi))]) C 5 dX8_indexOf_70 rfl (by decide) rfl rfl ?_
            refine x_lvI (lv' := [(4, .int (iI ((st + 1 : Nat) : Int))), (2, .int (iI (((((lo + hi) / 2).toNat : Nat) : Int) + 1))), (5, .int (iI ((((lo + hi) / 2).toNat : Nat) : Int))), (0, .ref h), (1, .int (iI x)), (3, .int (iI hi))]) 0 rfl (by omega) rfl ?_
            refine x_goto (tgt := 12) C dX8_indexOf_73 (by decide) ?_
            refine x_lv [3, 4, 1, 5, 0] rfl ?_
            exact ih12 ((((((lo + hi) / 2).toNat : Nat) : Int) + 1), hi, (st + 1)) ⟨(show 0 ≤ (((((lo + hi) / 2).toNat : Nat) : Int) + 1) ∧ (((((lo + hi) / 2).toNat : Nat) : Int) + 1) ≤ hi + 1 ∧ hi < (n : Int) from by omega), (show ((st + 1) : Int) + (hi - (((((lo + hi) / 2).toNat : Nat) : Int) + 1) + 1) ≤ 2002 from by omega), (show ∀ j_ (h_ : j_ < xs.length), (j_ : Int) < (((((lo + hi) / 2).toNat : Nat) : Int) + 1) → (xs[j_] : Int) < x from by first | exact h3 | exact bin_lo hso hm_ (by omega) (by omega)), (show ∀ j_ (h_ : j_ < xs.length), hi < (j_ : Int) → x < (xs[j_] : Int) from by first | exact h4 | exact bin_hi hso hm_ (by omega) (by omega))⟩ (show (hi - (((((lo + hi) / 2).toNat : Nat) : Int) + 1) + 1).toNat < (hi - lo + 1).toNat from by omega)
        ·
          refine x_iload (pc' := 45) C 0 dX8_indexOf_43 rfl rfl ?_
          exact x_iret C hr dX8_indexOf_45 ⟨((((lo + hi) / 2).toNat : Nat) : Int), rfl, rfl, (show (((((lo + hi) / 2).toNat : Nat) : Int) = -1 ∧ ∀ j_ (h_ : j_ < xs.length), (xs[j_] : Int) ≠ x) ∨ ∃ (i_ : Nat) (h_ : i_ < xs.length), ((((lo + hi) / 2).toNat : Nat) : Int) = (i_ : Int) ∧ (xs[i_] : Int) = x from Or.inr ⟨_, hm_, rfl, by omega⟩)⟩
  · exact ⟨(show 0 ≤ 0 ∧ 0 ≤ ((n : Int) - 1) + 1 ∧ ((n : Int) - 1) < (n : Int) from by omega), (show (0 : Int) + (((n : Int) - 1) - 0 + 1) ≤ 2002 from by omega), (show ∀ j_ (h_ : j_ < xs.length), (j_ : Int) < 0 → (xs[j_] : Int) < x from fun j_ h_ a => absurd a (by omega)), (show ∀ j_ (h_ : j_ < xs.length), ((n : Int) - 1) < (j_ : Int) → x < (xs[j_] : Int) from fun j_ h_ a => absurd a (by omega))⟩

set_option maxHeartbeats 4000000 in
set_option maxRecDepth 100000 in
theorem c_X8_leastRatio (l : Launch) (E : EV) (h : Nat) (hb : Nat) (ha : Nat) (hc : Nat) (n : Nat) (sg : Int) (fa : Nat → Int) (fc : Nat → Int) (hn : n ≤ 2002) (h0 : 0 < n) (hA : ∀ j_ : Nat, j_ < n → -1600 ≤ fa j_ ∧ fa j_ ≤ 1600) (hB : ∀ j_ : Nat, j_ < n → -1600 ≤ fc j_ ∧ fc j_ ≤ 1600) (hsg : sg = 1 ∨ sg = -1) : MC l E yX8_leastRatio cX8_leastRatio 3 (some .int) ({ frames := 0, cells := 0, slots := 0, locals := 0 }) [.ref h] [(h, ob 7 [.ref hb, .ref ha, .ref hc, .int (iI (n : Int)), .int (iI sg)]), (ha, ia E 2002 fa), (hc, ia E 2002 fc)] (fun v_ w_ => v_ = some (.int (iI ((lrat fa fc n : Nat) : Int))) ∧ w_ = [(h, ob 7 [.ref hb, .ref ha, .ref hc, .int (iI (n : Int)), .int (iI sg)]), (ha, ia E 2002 fa), (hc, ia E 2002 fc)]) := by
  refine MC.of (by decide +kernel) (Nat.le_of_ble_eq_true rfl) ?_
  intro p_ e_ s_ m_ args_ below_ meth_ c_ A_ C hr hnm
  have C : Cx p_ s_ m_ args_ meth_ c_ E A_ 3 cX8_leastRatio RX8 := C
  show Wx _ _ _ _ _ _ _ _ _ _ _ _ _ _ _ _ 0 [(0, .ref h)] [] [(h, ob 7 [.ref hb, .ref ha, .ref hc, .int (iI (n : Int)), .int (iI sg)]), (ha, ia E 2002 fa), (hc, ia E 2002 fc)]
  refine x_iconst (pc' := 1) C dX8_leastRatio_0 rfl ?_
  refine x_istore_n (pc' := 2) (lv' := [(1, .int (iI 0)), (0, .ref h)]) C dX8_leastRatio_1 rfl (by decide) rfl ?_
  refine x_iconst (pc' := 3) C dX8_leastRatio_2 rfl ?_
  refine x_istore_n (pc' := 4) (lv' := [(2, .int (iI 1)), (1, .int (iI 0)), (0, .ref h)]) C dX8_leastRatio_3 rfl (by decide) rfl ?_
  refine x_lv [2, 1, 0] rfl ?_
  refine x_loop (α := (Nat) × (Nat)) (fun a_ => (1 ≤ a_.1 ∧ a_.1 ≤ n) ∧ (a_.2 < n) ∧ (a_.2 = lrat fa fc a_.1)) (fun a_ => n - a_.1) (fun a_ => [(0, .ref h), (1, .int (iI (a_.2 : Int))), (2, .int (iI (a_.1 : Int)))]) (fun a_ => [(h, ob 7 [.ref hb, .ref ha, .ref hc, .int (iI (n : Int)), .int (iI sg)]), (ha, ia E 2002 fa), (hc, ia E 2002 fc)]) ?_ (1, 0) ?_
  · intro a_ hI_ ih4
    obtain ⟨i, j⟩ := a_
    obtain ⟨hi, hj, hb_⟩ := hI_
    replace hi : 1 ≤ i ∧ i ≤ n := hi
    replace hj : j < n := hj
    replace hb_ : j = lrat fa fc i := hb_
    show Wx _ _ _ _ _ _ _ _ _ _ _ _ _ _ _ _ 4 [(0, .ref h), (1, .int (iI (j : Int))), (2, .int (iI (i : Int)))] [] [(h, ob 7 [.ref hb, .ref ha, .ref hc, .int (iI (n : Int)), .int (iI sg)]), (ha, ia E 2002 fa), (hc, ia E 2002 fc)]
    refine x_iload_n (pc' := 5) C 2 dX8_leastRatio_4 rfl rfl ?_
    refine x_aload_n (pc' := 6) C 0 dX8_leastRatio_5 rfl rfl ?_
    refine x_get (pc' := 9) C dX8_leastRatio_6 rfl ff_X8_21_7 0 rfl rfl ?_
    refine x_icmp_ge (pc' := 12) (tgt := 49) C dX8_leastRatio_9 rfl (by decide) (by omega) (by omega) (fun c9 => ?_) (fun c9 => ?_)
    ·
      refine x_iload_n (pc' := 50) C 1 dX8_leastRatio_49 rfl rfl ?_
      refine x_top (b := .int (iI ((lrat fa fc n : Nat) : Int))) (by rw [hb_, show i = n by omega]) ?_
      exact x_iret C hr dX8_leastRatio_50 ⟨rfl, rfl⟩
    ·
      have m1 := mulb2 (hA i (by omega)) (hB j (by omega))
      have m2 := mulb2 (hA j (by omega)) (hB i (by omega))
      refine x_aload_n (pc' := 13) C 0 dX8_leastRatio_12 rfl rfl ?_
      refine x_get (pc' := 16) C dX8_leastRatio_13 rfl ff_X8_15_7 0 rfl rfl ?_
      refine x_iload_n (pc' := 17) C 2 dX8_leastRatio_16 rfl rfl ?_
      refine x_iald (pc' := 18) C i dX8_leastRatio_17 rfl 1 rfl (by omega) (by omega) (by omega) ?_
      refine x_aload_n (pc' := 19) C 0 dX8_leastRatio_18 rfl rfl ?_
      refine x_get (pc' := 22) C dX8_leastRatio_19 rfl ff_X8_18_7 0 rfl rfl ?_
      refine x_iload_n (pc' := 23) C 1 dX8_leastRatio_22 rfl rfl ?_
      refine x_iald (pc' := 24) C j dX8_leastRatio_23 rfl 2 rfl (by omega) (by omega) (by omega) ?_
      refine x_imul (pc' := 25) C dX8_leastRatio_24 rfl ?_
      refine x_aload_n (pc' := 26) C 0 dX8_leastRatio_25 rfl rfl ?_
      refine x_get (pc' := 29) C dX8_leastRatio_26 rfl ff_X8_15_7 0 rfl rfl ?_
      refine x_iload_n (pc' := 30) C 1 dX8_leastRatio_29 rfl rfl ?_
      refine x_iald (pc' := 31) C j dX8_leastRatio_30 rfl 1 rfl (by omega) (by omega) (by omega) ?_
      refine x_aload_n (pc' := 32) C 0 dX8_leastRatio_31 rfl rfl ?_
      refine x_get (pc' := 35) C dX8_leastRatio_32 rfl ff_X8_18_7 0 rfl rfl ?_
      refine x_iload_n (pc' := 36) C 2 dX8_leastRatio_35 rfl rfl ?_
      refine x_iald (pc' := 37) C i dX8_leastRatio_36 rfl 2 rfl (by omega) (by omega) (by omega) ?_
      refine x_imul (pc' := 38) C dX8_leastRatio_37 rfl ?_
      refine x_icmp_ge (pc' := 41) (tgt := 43) C dX8_leastRatio_38 rfl (by decide) (by omega) (by omega) (fun c38 => ?_) (fun c38 => ?_)
      ·
        refine x_iinc (pc' := 46) (lv' := [(2, .int (iI ((i : Int) + 1))), (0, .ref h), (1, .int (iI (j : Int)))]) C 2 dX8_leastRatio_43 rfl (by decide) rfl rfl ?_
        refine x_lvI (lv' := [(2, .int (iI ((i + 1 : Nat) : Int))), (0, .ref h), (1, .int (iI (j : Int)))]) 0 rfl (by omega) rfl ?_
        refine x_goto (tgt := 4) C dX8_leastRatio_46 (by decide) ?_
        refine x_lv [1, 2, 0] rfl ?_
        exact ih4 ((i + 1), j) ⟨(show 1 ≤ (i + 1) ∧ (i + 1) ≤ n from by omega), (show j < n from by omega), (show j = lrat fa fc (i + 1) from by first | exact lrat_step hb_ c38 | exact lrat_stay hb_ c38)⟩ (show n - (i + 1) < n - i from by omega)
      ·
        refine x_iload_n (pc' := 42) C 2 dX8_leastRatio_41 rfl rfl ?_
        refine x_istore_n (pc' := 43) (lv' := [(1, .int (iI (i : Int))), (0, .ref h), (2, .int (iI (i : Int)))]) C dX8_leastRatio_42 rfl (by decide) rfl ?_
        refine x_iinc (pc' := 46) (lv' := [(2, .int (iI ((i : Int) + 1))), (1, .int (iI (i : Int))), (0, .ref h)]) C 2 dX8_leastRatio_43 rfl (by decide) rfl rfl ?_
        refine x_lvI (lv' := [(2, .int (iI ((i + 1 : Nat) : Int))), (1, .int (iI (i : Int))), (0, .ref h)]) 0 rfl (by omega) rfl ?_
        refine x_goto (tgt := 4) C dX8_leastRatio_46 (by decide) ?_
        refine x_lv [2, 1, 0] rfl ?_
        exact ih4 ((i + 1), i) ⟨(show 1 ≤ (i + 1) ∧ (i + 1) ≤ n from by omega), (show i < n from by omega), (show i = lrat fa fc (i + 1) from by first | exact lrat_step hb_ c38 | exact lrat_stay hb_ c38)⟩ (show n - (i + 1) < n - i from by omega)
  · exact ⟨(show 1 ≤ 1 ∧ 1 ≤ n from by omega), (show 0 < n from by omega), (show 0 = lrat fa fc 1 from (lrat_1 _ _).symm)⟩

set_option maxHeartbeats 4000000 in
set_option maxRecDepth 100000 in
theorem c_X8_addUpLines (l : Launch) (E : EV) (h : Nat) (hb : Nat) (ha : Nat) (hc : Nat) (n : Nat) (g : Nat) (ga : Nat) (gb : Nat) (np : Nat) (len : Nat) (sg : Int) (fb : Nat → Int) (fa : Nat → Int) (fc : Nat → Int) (pa : Nat → Int) (pb : Nat → Int) (xs : List Nat) (hn : n ≤ 2002) (hl : len ≤ 16) (hnp : np ≤ len) (hlen : xs.length = n) (hls : LsA fb xs) (hbd : ∀ j_ (h_ : j_ < xs.length), xs[j_] < 1000000) : MC l E yX8_addUpLines cX8_addUpLines 4 (none) ({ frames := 1, cells := 0, slots := 0, locals := 21 }) [.ref h, .ref g] [(h, ob 7 [.ref hb, .ref ha, .ref hc, .int (iI (n : Int)), .int (iI sg)]), (hb, ia E 2002 fb), (ha, ia E 2002 fa), (hc, ia E 2002 fc), (g, ob 5 [.ref ga, .ref gb, .int (iI (np : Int))]), (ga, ia E len pa), (gb, ia E len pb)] (fun v_ w_ => ∃ (fa2 : Nat → Int) (fc2 : Nat → Int), v_ = none ∧ w_ = [(h, ob 7 [.ref hb, .ref ha, .ref hc, .int (iI (n : Int)), .int (iI sg)]), (hb, ia E 2002 fb), (ha, ia E 2002 fa2), (hc, ia E 2002 fc2), (g, ob 5 [.ref ga, .ref gb, .int (iI (np : Int))]), (ga, ia E len pa), (gb, ia E len pb)] ∧ (∀ j_ (h_ : j_ < xs.length), fa2 j_ = sumB pa xs[j_] np ∧ fc2 j_ = sumB pb xs[j_] np)) := by
  refine MC.of (by decide +kernel) (Nat.le_of_ble_eq_true rfl) ?_
  intro p_ e_ s_ m_ args_ below_ meth_ c_ A_ C hr hnm
  have C : Cx p_ s_ m_ args_ meth_ c_ E A_ 4 cX8_addUpLines RX8 := C
  show Wx _ _ _ _ _ _ _ _ _ _ _ _ _ _ _ _ 0 [(0, .ref h), (1, .ref g)] [] [(h, ob 7 [.ref hb, .ref ha, .ref hc, .int (iI (n : Int)), .int (iI sg)]), (hb, ia E 2002 fb), (ha, ia E 2002 fa), (hc, ia E 2002 fc), (g, ob 5 [.ref ga, .ref gb, .int (iI (np : Int))]), (ga, ia E len pa), (gb, ia E len pb)]
  refine x_iconst (pc' := 1) C dX8_addUpLines_0 rfl ?_
  refine x_istore_n (pc' := 2) (lv' := [(2, .int (iI 0)), (0, .ref h), (1, .ref g)]) C dX8_addUpLines_1 rfl (by decide) rfl ?_
  refine x_lv [1, 2, 0] rfl ?_
  refine x_loop (α := (Nat) × (Nat → Int) × (Nat → Int)) (fun a_ => (a_.1 ≤ n) ∧ (∀ j_ (h_ : j_ < xs.length), j_ < a_.1 → a_.2.1 j_ = sumB pa xs[j_] np ∧ a_.2.2 j_ = sumB pb xs[j_] np)) (fun a_ => n - a_.1) (fun a_ => [(0, .ref h), (1, .ref g), (2, .int (iI (a_.1 : Int)))]) (fun a_ => [(h, ob 7 [.ref hb, .ref ha, .ref hc, .int (iI (n : Int)), .int (iI sg)]), (hb, ia E 2002 fb), (ha, ia E 2002 a_.2.1), (hc, ia E 2002 a_.2.2), (g, ob 5 [.ref ga, .ref gb, .int (iI (np : Int))]), (ga, ia E len pa), (gb, ia E len pb)]) ?_ (0, fa, fc) ?_
  · intro a_ hI_ ih2
    obtain ⟨i, a1, c1⟩ := a_
    obtain ⟨hi, hz⟩ := hI_
    replace hi : i ≤ n := hi
    replace hz : ∀ j_ (h_ : j_ < xs.length), j_ < i → a1 j_ = sumB pa xs[j_] np ∧ c1 j_ = sumB pb xs[j_] np := hz
    show Wx _ _ _ _ _ _ _ _ _ _ _ _ _ _ _ _ 2 [(0, .ref h), (1, .ref g), (2, .int (iI (i : Int)))] [] [(h, ob 7 [.ref hb, .ref ha, .ref hc, .int (iI (n : Int)), .int (iI sg)]), (hb, ia E 2002 fb), (ha, ia E 2002 a1), (hc, ia E 2002 c1), (g, ob 5 [.ref ga, .ref gb, .int (iI (np : Int))]), (ga, ia E len pa), (gb, ia E len pb)]
    refine x_iload_n (pc' := 3) C 2 dX8_addUpLines_2 rfl rfl ?_
    refine x_aload_n (pc' := 4) C 0 dX8_addUpLines_3 rfl rfl ?_
    refine x_get (pc' := 7) C dX8_addUpLines_4 rfl ff_X8_21_7 0 rfl rfl ?_
    refine x_icmp_ge (pc' := 10) (tgt := 92) C dX8_addUpLines_7 rfl (by decide) (by omega) (by omega) (fun c7 => ?_) (fun c7 => ?_)
    ·
      exact x_vret C hr dX8_addUpLines_92 ⟨a1, c1, rfl, rfl, (show ∀ j_ (h_ : j_ < xs.length), a1 j_ = sumB pa xs[j_] np ∧ c1 j_ = sumB pb xs[j_] np from fun j_ h_ => hz j_ h_ (by omega))⟩
    ·
      have hxi : i < xs.length := by omega
      have hb1 := hbd i hxi
      have hl1 := hls i hxi
      refine x_aload_n (pc' := 11) C 0 dX8_addUpLines_10 rfl rfl ?_
      refine x_get (pc' := 14) C dX8_addUpLines_11 rfl ff_X8_15_7 0 rfl rfl ?_
      refine x_iload_n (pc' := 15) C 2 dX8_addUpLines_14 rfl rfl ?_
      refine x_iconst (pc' := 16) C dX8_addUpLines_15 rfl ?_
      refine x_iast (pc' := 17) (ws' := [(h, ob 7 [.ref hb, .ref ha, .ref hc, .int (iI (n : Int)), .int (iI sg)]), (hb, ia E 2002 fb), (ha, ia E 2002 (va_up a1 i 0)), (hc, ia E 2002 c1), (g, ob 5 [.ref ga, .ref gb, .int (iI (np : Int))]), (ga, ia E len pa), (gb, ia E len pb)]) C i dX8_addUpLines_16 rfl 2 rfl (by omega) (by omega) (by omega) rfl ?_
      refine x_aload_n (pc' := 18) C 0 dX8_addUpLines_17 rfl rfl ?_
      refine x_get (pc' := 21) C dX8_addUpLines_18 rfl ff_X8_18_7 0 rfl rfl ?_
      refine x_iload_n (pc' := 22) C 2 dX8_addUpLines_21 rfl rfl ?_
      refine x_iconst (pc' := 23) C dX8_addUpLines_22 rfl ?_
      refine x_iast (pc' := 24) (ws' := [(h, ob 7 [.ref hb, .ref ha, .ref hc, .int (iI (n : Int)), .int (iI sg)]), (hb, ia E 2002 fb), (ha, ia E 2002 (va_up a1 i 0)), (hc, ia E 2002 (va_up c1 i 0)), (g, ob 5 [.ref ga, .ref gb, .int (iI (np : Int))]), (ga, ia E len pa), (gb, ia E len pb)]) C i dX8_addUpLines_23 rfl 3 rfl (by omega) (by omega) (by omega) rfl ?_
      refine x_iconst (pc' := 25) C dX8_addUpLines_24 rfl ?_
      refine x_istore_n (pc' := 26) (lv' := [(3, .int (iI 0)), (0, .ref h), (1, .ref g), (2, .int (iI (i : Int)))]) C dX8_addUpLines_25 rfl (by decide) rfl ?_
      refine x_lv [1, 2, 3, 0] rfl ?_
      refine x_loop (α := (Nat) × (Nat → Int) × (Nat → Int)) (fun a_ => (a_.1 ≤ np) ∧ (∀ j_ (h_ : j_ < xs.length), j_ < i → a_.2.1 j_ = sumB pa xs[j_] np ∧ a_.2.2 j_ = sumB pb xs[j_] np) ∧ (a_.2.1 i = sumB pa (xs[i]'hxi) a_.1 ∧ a_.2.2 i = sumB pb (xs[i]'hxi) a_.1)) (fun a_ => np - a_.1) (fun a_ => [(0, .ref h), (1, .ref g), (2, .int (iI (i : Int))), (3, .int (iI (a_.1 : Int)))]) (fun a_ => [(h, ob 7 [.ref hb, .ref ha, .ref hc, .int (iI (n : Int)), .int (iI sg)]), (hb, ia E 2002 fb), (ha, ia E 2002 a_.2.1), (hc, ia E 2002 a_.2.2), (g, ob 5 [.ref ga, .ref gb, .int (iI (np : Int))]), (ga, ia E len pa), (gb, ia E len pb)]) ?_ (0, (va_up a1 i 0), (va_up c1 i 0)) ?_
      · intro a_ hI_ ih26
        obtain ⟨q, a2, c2⟩ := a_
        obtain ⟨hq, hw, hv⟩ := hI_
        replace hq : q ≤ np := hq
        replace hw : ∀ j_ (h_ : j_ < xs.length), j_ < i → a2 j_ = sumB pa xs[j_] np ∧ c2 j_ = sumB pb xs[j_] np := hw
        replace hv : a2 i = sumB pa (xs[i]'hxi) q ∧ c2 i = sumB pb (xs[i]'hxi) q := hv
        show Wx _ _ _ _ _ _ _ _ _ _ _ _ _ _ _ _ 26 [(0, .ref h), (1, .ref g), (2, .int (iI (i : Int))), (3, .int (iI (q : Int)))] [] [(h, ob 7 [.ref hb, .ref ha, .ref hc, .int (iI (n : Int)), .int (iI sg)]), (hb, ia E 2002 fb), (ha, ia E 2002 a2), (hc, ia E 2002 c2), (g, ob 5 [.ref ga, .ref gb, .int (iI (np : Int))]), (ga, ia E len pa), (gb, ia E len pb)]
        refine x_iload_n (pc' := 27) C 3 dX8_addUpLines_26 rfl rfl ?_
        refine x_aload_n (pc' := 28) C 1 dX8_addUpLines_27 rfl rfl ?_
        refine x_get (pc' := 31) C dX8_addUpLines_28 rfl ff_X8_28_5 4 rfl rfl ?_
        refine x_icmp_ge (pc' := 34) (tgt := 86) C dX8_addUpLines_31 rfl (by decide) (by omega) (by omega) (fun c31 => ?_) (fun c31 => ?_)
        ·
          refine x_iinc (pc' := 89) (lv' := [(2, .int (iI ((i : Int) + 1))), (0, .ref h), (1, .ref g), (3, .int (iI (q : Int)))]) C 2 dX8_addUpLines_86 rfl (by decide) rfl rfl ?_
          refine x_lvI (lv' := [(2, .int (iI ((i + 1 : Nat) : Int))), (0, .ref h), (1, .ref g), (3, .int (iI (q : Int)))]) 0 rfl (by omega) rfl ?_
          refine x_goto (tgt := 2) C dX8_addUpLines_89 (by decide) ?_
          refine x_lv [1, 2, 0] rfl ?_
          exact ih2 ((i + 1), a2, c2) ⟨(show (i + 1) ≤ n from by omega), (show ∀ j_ (h_ : j_ < xs.length), j_ < (i + 1) → a2 j_ = sumB pa xs[j_] np ∧ c2 j_ = sumB pb xs[j_] np from add_done hw hxi (show q = np by omega) hv)⟩ (show n - (i + 1) < n - i from by omega)
        ·
          refine x_aload_n (pc' := 35) C 0 dX8_addUpLines_34 rfl rfl ?_
          refine x_get (pc' := 38) C dX8_addUpLines_35 rfl ff_X8_11_7 0 rfl rfl ?_
          refine x_iload_n (pc' := 39) C 2 dX8_addUpLines_38 rfl rfl ?_
          refine x_iald (pc' := 40) C i dX8_addUpLines_39 rfl 1 rfl (by omega) (by omega) (by omega) ?_
          refine x_top (b := .int (iI ((xs[i] : Nat) : Int))) (by rw [hl1]) ?_
          refine x_iload_n (pc' := 41) C 3 dX8_addUpLines_40 rfl rfl ?_
          refine x_callN (pc' := 44) (As := [.int (iI ((xs[i] : Nat) : Int)), .int (iI (q : Int))]) (rest := []) C cn_X8_31 dX8_addUpLines_41 rfl (c_X11_holds l E (xs[i]) q (show (xs[i]) < 2147483648 from by omega) (show q < 32 from by omega)) mm_X11_holds (hstk := rfl) (hlen := rfl) (hcat := Nat.le_of_ble_eq_true rfl) (isC := []) (isR := [0, 1, 2, 3, 4, 5, 6]) (wr := [(h, ob 7 [.ref hb, .ref ha, .ref hc, .int (iI (n : Int)), .int (iI sg)]), (hb, ia E 2002 fb), (ha, ia E 2002 a2), (hc, ia E 2002 c2), (g, ob 5 [.ref ga, .ref gb, .int (iI (np : Int))]), (ga, ia E len pa), (gb, ia E len pb)]) (hC := rfl) (hR := rfl) (hnC := rfl) (hn := rfl) (hdis := by decide) (hR1 := ⟨Nat.le_of_ble_eq_true rfl, Nat.le_of_ble_eq_true rfl⟩) (hcs := ⟨Nat.le_of_ble_eq_true rfl, Nat.le_of_ble_eq_true rfl⟩) (fun v_ w_ hp_ => ?_)
          obtain ⟨rfl, rfl⟩ := hp_
          show Wx _ _ _ _ _ _ _ _ _ _ _ _ _ _ _ _ 44 [(0, .ref h), (1, .ref g), (2, .int (iI (i : Int))), (3, .int (iI (q : Int)))] [.int (iI (bI ((xs[i]).testBit q = true)))] [(h, ob 7 [.ref hb, .ref ha, .ref hc, .int (iI (n : Int)), .int (iI sg)]), (hb, ia E 2002 fb), (ha, ia E 2002 a2), (hc, ia E 2002 c2), (g, ob 5 [.ref ga, .ref gb, .int (iI (np : Int))]), (ga, ia E len pa), (gb, ia E len pb)]
          refine x_if_ne (pc' := 47) (tgt := 50) C dX8_addUpLines_44 rfl (by decide) (bI_rng) (fun c44 => ?_) (fun c44 => ?_)
          ·
            replace c44 := bI_nz c44
            refine x_aload_n (pc' := 51) C 0 dX8_addUpLines_50 rfl rfl ?_
            refine x_get (pc' := 54) C dX8_addUpLines_51 rfl ff_X8_15_7 0 rfl rfl ?_
            refine x_iload_n (pc' := 55) C 2 dX8_addUpLines_54 rfl rfl ?_
            refine x_dup2 (pc' := 56) C dX8_addUpLines_55 rfl rfl rfl ?_
            refine x_iald (pc' := 57) C i dX8_addUpLines_56 rfl 2 rfl (by omega) (by omega) (by omega) ?_
            refine x_aload_n (pc' := 58) C 1 dX8_addUpLines_57 rfl rfl ?_
            refine x_get (pc' := 61) C dX8_addUpLines_58 rfl ff_X8_35_5 4 rfl rfl ?_
            refine x_iload_n (pc' := 62) C 3 dX8_addUpLines_61 rfl rfl ?_
            refine x_iald (pc' := 63) C q dX8_addUpLines_62 rfl 5 rfl (by omega) (by omega) (by omega) ?_
            refine x_iadd (pc' := 64) C dX8_addUpLines_63 rfl ?_
            refine x_iast (pc' := 65) (ws' := [(h, ob 7 [.ref hb, .ref ha, .ref hc, .int (iI (n : Int)), .int (iI sg)]), (hb, ia E 2002 fb), (ha, ia E 2002 (va_up a2 i ((a2 i) + (pa q)))), (hc, ia E 2002 c2), (g, ob 5 [.ref ga, .ref gb, .int (iI (np : Int))]), (ga, ia E len pa), (gb, ia E len pb)]) C i dX8_addUpLines_64 rfl 2 rfl (by omega) (by omega) (by omega) rfl ?_
            refine x_aload_n (pc' := 66) C 0 dX8_addUpLines_65 rfl rfl ?_
            refine x_get (pc' := 69) C dX8_addUpLines_66 rfl ff_X8_18_7 0 rfl rfl ?_
            refine x_iload_n (pc' := 70) C 2 dX8_addUpLines_69 rfl rfl ?_
            refine x_dup2 (pc' := 71) C dX8_addUpLines_70 rfl rfl rfl ?_
            refine x_iald (pc' := 72) C i dX8_addUpLines_71 rfl 3 rfl (by omega) (by omega) (by omega) ?_
            refine x_aload_n (pc' := 73) C 1 dX8_addUpLines_72 rfl rfl ?_
            refine x_get (pc' := 76) C dX8_addUpLines_73 rfl ff_X8_36_5 4 rfl rfl ?_
            refine x_iload_n (pc' := 77) C 3 dX8_addUpLines_76 rfl rfl ?_
            refine x_iald (pc' := 78) C q dX8_addUpLines_77 rfl 6 rfl (by omega) (by omega) (by omega) ?_
            refine x_iadd (pc' := 79) C dX8_addUpLines_78 rfl ?_
            refine x_iast (pc' := 80) (ws' := [(h, ob 7 [.ref hb, .ref ha, .ref hc, .int (iI (n : Int)), .int (iI sg)]), (hb, ia E 2002 fb), (ha, ia E 2002 (va_up a2 i ((a2 i) + (pa q)))), (hc, ia E 2002 (va_up c2 i ((c2 i) + (pb q)))), (g, ob 5 [.ref ga, .ref gb, .int (iI (np : Int))]), (ga, ia E len pa), (gb, ia E len pb)]) C i dX8_addUpLines_79 rfl 3 rfl (by omega) (by omega) (by omega) rfl ?_
            refine x_iinc (pc' := 83) (lv' := [(3, .int (iI ((q : Int) + 1))), (0, .ref h), (1, .ref g), (2, .int (iI (i : Int)))]) C 3 dX8_addUpLines_80 rfl (by decide) rfl rfl ?_
            refine x_lvI (lv' := [(3, .int (iI ((q + 1 : Nat) : Int))), (0, .ref h), (1, .ref g), (2, .int (iI (i : Int)))]) 0 rfl (by omega) rfl ?_
            refine x_goto (tgt := 26) C dX8_addUpLines_83 (by decide) ?_
            refine x_lv [1, 2, 3, 0] rfl ?_
            exact ih26 ((q + 1), (va_up a2 i ((a2 i) + (pa q))), (va_up c2 i ((c2 i) + (pb q)))) ⟨(show (q + 1) ≤ np from by omega), (show ∀ j_ (h_ : j_ < xs.length), j_ < i → (va_up a2 i ((a2 i) + (pa q))) j_ = sumB pa xs[j_] np ∧ (va_up c2 i ((c2 i) + (pb q))) j_ = sumB pb xs[j_] np from by first | exact hw | exact add_keep hw), (show (va_up a2 i ((a2 i) + (pa q))) i = sumB pa (xs[i]'hxi) (q + 1) ∧ (va_up c2 i ((c2 i) + (pb q))) i = sumB pb (xs[i]'hxi) (q + 1) from by first | exact add_in hv c44 | exact add_out hv c44)⟩ (show np - (q + 1) < np - q from by omega)
          ·
            replace c44 := bI_z c44
            refine x_goto (tgt := 80) C dX8_addUpLines_47 (by decide) ?_
            refine x_iinc (pc' := 83) (lv' := [(3, .int (iI ((q : Int) + 1))), (0, .ref h), (1, .ref g), (2, .int (iI (i : Int)))]) C 3 dX8_addUpLines_80 rfl (by decide) rfl rfl ?_
            refine x_lvI (lv' := [(3, .int (iI ((q + 1 : Nat) : Int))), (0, .ref h), (1, .ref g), (2, .int (iI (i : Int)))]) 0 rfl (by omega) rfl ?_
            refine x_goto (tgt := 26) C dX8_addUpLines_83 (by decide) ?_
            refine x_lv [1, 2, 3, 0] rfl ?_
            exact ih26 ((q + 1), a2, c2) ⟨(show (q + 1) ≤ np from by omega), (show ∀ j_ (h_ : j_ < xs.length), j_ < i → a2 j_ = sumB pa xs[j_] np ∧ c2 j_ = sumB pb xs[j_] np from by first | exact hw | exact add_keep hw), (show a2 i = sumB pa (xs[i]'hxi) (q + 1) ∧ c2 i = sumB pb (xs[i]'hxi) (q + 1) from by first | exact add_in hv c44 | exact add_out hv c44)⟩ (show np - (q + 1) < np - q from by omega)
      · exact ⟨(show 0 ≤ np from by omega), (show ∀ j_ (h_ : j_ < xs.length), j_ < i → (va_up a1 i 0) j_ = sumB pa xs[j_] np ∧ (va_up c1 i 0) j_ = sumB pb xs[j_] np from add_keep hz), (show (va_up a1 i 0) i = sumB pa (xs[i]'hxi) 0 ∧ (va_up c1 i 0) i = sumB pb (xs[i]'hxi) 0 from ⟨by simp [va_up, sumB], by simp [va_up, sumB]⟩)⟩
  · exact ⟨(show 0 ≤ n from by omega), (show ∀ j_ (h_ : j_ < xs.length), j_ < 0 → fa j_ = sumB pa xs[j_] np ∧ fc j_ = sumB pb xs[j_] np from fun j_ h_ a => absurd a (Nat.not_lt_zero _))⟩

set_option maxHeartbeats 4000000 in
set_option maxRecDepth 100000 in
theorem c_X8_addUpLines_L (l : Launch) (E : EV) (h : Nat) (hb : Nat) (ha : Nat) (hc : Nat) (n : Nat) (g : Nat) (ga : Nat) (gb : Nat) (np : Nat) (len : Nat) (gf : Nat) (gt : Nat) (sg : Int) (fb : Nat → Int) (fa : Nat → Int) (fc : Nat → Int) (pa : Nat → Int) (pb : Nat → Int) (xs : List Nat) (hn : n ≤ 2002) (hl : len ≤ 16) (hnp : np ≤ len) (hlen : xs.length = n) (hls : LsA fb xs) (hbd : ∀ j_ (h_ : j_ < xs.length), xs[j_] < 1000000) : MC l E yX8_addUpLines cX8_addUpLines 4 (none) ({ frames := 1, cells := 0, slots := 0, locals := 21 }) [.ref h, .ref g] [(h, ob 7 [.ref hb, .ref ha, .ref hc, .int (iI (n : Int)), .int (iI sg)]), (hb, ia E 2002 fb), (ha, ia E 2002 fa), (hc, ia E 2002 fc), (g, ob 2 [.ref ga, .ref gb, .int (iI (np : Int)), .ref gf, .ref gt]), (ga, ia E len pa), (gb, ia E len pb)] (fun v_ w_ => ∃ (fa2 : Nat → Int) (fc2 : Nat → Int), v_ = none ∧ w_ = [(h, ob 7 [.ref hb, .ref ha, .ref hc, .int (iI (n : Int)), .int (iI sg)]), (hb, ia E 2002 fb), (ha, ia E 2002 fa2), (hc, ia E 2002 fc2), (g, ob 2 [.ref ga, .ref gb, .int (iI (np : Int)), .ref gf, .ref gt]), (ga, ia E len pa), (gb, ia E len pb)] ∧ (∀ j_ (h_ : j_ < xs.length), fa2 j_ = sumB pa xs[j_] np ∧ fc2 j_ = sumB pb xs[j_] np)) := by
  refine MC.of (by decide +kernel) (Nat.le_of_ble_eq_true rfl) ?_
  intro p_ e_ s_ m_ args_ below_ meth_ c_ A_ C hr hnm
  have C : Cx p_ s_ m_ args_ meth_ c_ E A_ 4 cX8_addUpLines RX8 := C
  show Wx _ _ _ _ _ _ _ _ _ _ _ _ _ _ _ _ 0 [(0, .ref h), (1, .ref g)] [] [(h, ob 7 [.ref hb, .ref ha, .ref hc, .int (iI (n : Int)), .int (iI sg)]), (hb, ia E 2002 fb), (ha, ia E 2002 fa), (hc, ia E 2002 fc), (g, ob 2 [.ref ga, .ref gb, .int (iI (np : Int)), .ref gf, .ref gt]), (ga, ia E len pa), (gb, ia E len pb)]
  refine x_iconst (pc' := 1) C dX8_addUpLines_0 rfl ?_
  refine x_istore_n (pc' := 2) (lv' := [(2, .int (iI 0)), (0, .ref h), (1, .ref g)]) C dX8_addUpLines_1 rfl (by decide) rfl ?_
  refine x_lv [1, 2, 0] rfl ?_
  refine x_loop (α := (Nat) × (Nat → Int) × (Nat → Int)) (fun a_ => (a_.1 ≤ n) ∧ (∀ j_ (h_ : j_ < xs.length), j_ < a_.1 → a_.2.1 j_ = sumB pa xs[j_] np ∧ a_.2.2 j_ = sumB pb xs[j_] np)) (fun a_ => n - a_.1) (fun a_ => [(0, .ref h), (1, .ref g), (2, .int (iI (a_.1 : Int)))]) (fun a_ => [(h, ob 7 [.ref hb, .ref ha, .ref hc, .int (iI (n : Int)), .int (iI sg)]), (hb, ia E 2002 fb), (ha, ia E 2002 a_.2.1), (hc, ia E 2002 a_.2.2), (g, ob 2 [.ref ga, .ref gb, .int (iI (np : Int)), .ref gf, .ref gt]), (ga, ia E len pa), (gb, ia E len pb)]) ?_ (0, fa, fc) ?_
  · intro a_ hI_ ih2
    obtain ⟨i, a1, c1⟩ := a_
    obtain ⟨hi, hz⟩ := hI_
    replace hi : i ≤ n := hi
    replace hz : ∀ j_ (h_ : j_ < xs.length), j_ < i → a1 j_ = sumB pa xs[j_] np ∧ c1 j_ = sumB pb xs[j_] np := hz
    show Wx _ _ _ _ _ _ _ _ _ _ _ _ _ _ _ _ 2 [(0, .ref h), (1, .ref g), (2, .int (iI (i : Int)))] [] [(h, ob 7 [.ref hb, .ref ha, .ref hc, .int (iI (n : Int)), .int (iI sg)]), (hb, ia E 2002 fb), (ha, ia E 2002 a1), (hc, ia E 2002 c1), (g, ob 2 [.ref ga, .ref gb, .int (iI (np : Int)), .ref gf, .ref gt]), (ga, ia E len pa), (gb, ia E len pb)]
    refine x_iload_n (pc' := 3) C 2 dX8_addUpLines_2 rfl rfl ?_
    refine x_aload_n (pc' := 4) C 0 dX8_addUpLines_3 rfl rfl ?_
    refine x_get (pc' := 7) C dX8_addUpLines_4 rfl ff_X8_21_7 0 rfl rfl ?_
    refine x_icmp_ge (pc' := 10) (tgt := 92) C dX8_addUpLines_7 rfl (by decide) (by omega) (by omega) (fun c7 => ?_) (fun c7 => ?_)
    ·
      exact x_vret C hr dX8_addUpLines_92 ⟨a1, c1, rfl, rfl, (show ∀ j_ (h_ : j_ < xs.length), a1 j_ = sumB pa xs[j_] np ∧ c1 j_ = sumB pb xs[j_] np from fun j_ h_ => hz j_ h_ (by omega))⟩
    ·
      have hxi : i < xs.length := by omega
      have hb1 := hbd i hxi
      have hl1 := hls i hxi
      refine x_aload_n (pc' := 11) C 0 dX8_addUpLines_10 rfl rfl ?_
      refine x_get (pc' := 14) C dX8_addUpLines_11 rfl ff_X8_15_7 0 rfl rfl ?_
      refine x_iload_n (pc' := 15) C 2 dX8_addUpLines_14 rfl rfl ?_
      refine x_iconst (pc' := 16) C dX8_addUpLines_15 rfl ?_
      refine x_iast (pc' := 17) (ws' := [(h, ob 7 [.ref hb, .ref ha, .ref hc, .int (iI (n : Int)), .int (iI sg)]), (hb, ia E 2002 fb), (ha, ia E 2002 (va_up a1 i 0)), (hc, ia E 2002 c1), (g, ob 2 [.ref ga, .ref gb, .int (iI (np : Int)), .ref gf, .ref gt]), (ga, ia E len pa), (gb, ia E len pb)]) C i dX8_addUpLines_16 rfl 2 rfl (by omega) (by omega) (by omega) rfl ?_
      refine x_aload_n (pc' := 18) C 0 dX8_addUpLines_17 rfl rfl ?_
      refine x_get (pc' := 21) C dX8_addUpLines_18 rfl ff_X8_18_7 0 rfl rfl ?_
      refine x_iload_n (pc' := 22) C 2 dX8_addUpLines_21 rfl rfl ?_
      refine x_iconst (pc' := 23) C dX8_addUpLines_22 rfl ?_
      refine x_iast (pc' := 24) (ws' := [(h, ob 7 [.ref hb, .ref ha, .ref hc, .int (iI (n : Int)), .int (iI sg)]), (hb, ia E 2002 fb), (ha, ia E 2002 (va_up a1 i 0)), (hc, ia E 2002 (va_up c1 i 0)), (g, ob 2 [.ref ga, .ref gb, .int (iI (np : Int)), .ref gf, .ref gt]), (ga, ia E len pa), (gb, ia E len pb)]) C i dX8_addUpLines_23 rfl 3 rfl (by omega) (by omega) (by omega) rfl ?_
      refine x_iconst (pc' := 25) C dX8_addUpLines_24 rfl ?_
      refine x_istore_n (pc' := 26) (lv' := [(3, .int (iI 0)), (0, .ref h), (1, .ref g), (2, .int (iI (i : Int)))]) C dX8_addUpLines_25 rfl (by decide) rfl ?_
      refine x_lv [1, 2, 3, 0] rfl ?_
      refine x_loop (α := (Nat) × (Nat → Int) × (Nat → Int)) (fun a_ => (a_.1 ≤ np) ∧ (∀ j_ (h_ : j_ < xs.length), j_ < i → a_.2.1 j_ = sumB pa xs[j_] np ∧ a_.2.2 j_ = sumB pb xs[j_] np) ∧ (a_.2.1 i = sumB pa (xs[i]'hxi) a_.1 ∧ a_.2.2 i = sumB pb (xs[i]'hxi) a_.1)) (fun a_ => np - a_.1) (fun a_ => [(0, .ref h), (1, .ref g), (2, .int (iI (i : Int))), (3, .int (iI (a_.1 : Int)))]) (fun a_ => [(h, ob 7 [.ref hb, .ref ha, .ref hc, .int (iI (n : Int)), .int (iI sg)]), (hb, ia E 2002 fb), (ha, ia E 2002 a_.2.1), (hc, ia E 2002 a_.2.2), (g, ob 2 [.ref ga, .ref gb, .int (iI (np : Int)), .ref gf, .ref gt]), (ga, ia E len pa), (gb, ia E len pb)]) ?_ (0, (va_up a1 i 0), (va_up c1 i 0)) ?_
      · intro a_ hI_ ih26
        obtain ⟨q, a2, c2⟩ := a_
        obtain ⟨hq, hw, hv⟩ := hI_
        replace hq : q ≤ np := hq
        replace hw : ∀ j_ (h_ : j_ < xs.length), j_ < i → a2 j_ = sumB pa xs[j_] np ∧ c2 j_ = sumB pb xs[j_] np := hw
        replace hv : a2 i = sumB pa (xs[i]'hxi) q ∧ c2 i = sumB pb (xs[i]'hxi) q := hv
        show Wx _ _ _ _ _ _ _ _ _ _ _ _ _ _ _ _ 26 [(0, .ref h), (1, .ref g), (2, .int (iI (i : Int))), (3, .int (iI (q : Int)))] [] [(h, ob 7 [.ref hb, .ref ha, .ref hc, .int (iI (n : Int)), .int (iI sg)]), (hb, ia E 2002 fb), (ha, ia E 2002 a2), (hc, ia E 2002 c2), (g, ob 2 [.ref ga, .ref gb, .int (iI (np : Int)), .ref gf, .ref gt]), (ga, ia E len pa), (gb, ia E len pb)]
        refine x_iload_n (pc' := 27) C 3 dX8_addUpLines_26 rfl rfl ?_
        refine x_aload_n (pc' := 28) C 1 dX8_addUpLines_27 rfl rfl ?_
        refine x_get (pc' := 31) C dX8_addUpLines_28 rfl ff_X8_28_2 4 rfl rfl ?_
        refine x_icmp_ge (pc' := 34) (tgt := 86) C dX8_addUpLines_31 rfl (by decide) (by omega) (by omega) (fun c31 => ?_) (fun c31 => ?_)
        ·
          refine x_iinc (pc' := 89) (lv' := [(2, .int (iI ((i : Int) + 1))), (0, .ref h), (1, .ref g), (3, .int (iI (q : Int)))]) C 2 dX8_addUpLines_86 rfl (by decide) rfl rfl ?_
          refine x_lvI (lv' := [(2, .int (iI ((i + 1 : Nat) : Int))), (0, .ref h), (1, .ref g), (3, .int (iI (q : Int)))]) 0 rfl (by omega) rfl ?_
          refine x_goto (tgt := 2) C dX8_addUpLines_89 (by decide) ?_
          refine x_lv [1, 2, 0] rfl ?_
          exact ih2 ((i + 1), a2, c2) ⟨(show (i + 1) ≤ n from by omega), (show ∀ j_ (h_ : j_ < xs.length), j_ < (i + 1) → a2 j_ = sumB pa xs[j_] np ∧ c2 j_ = sumB pb xs[j_] np from add_done hw hxi (show q = np by omega) hv)⟩ (show n - (i + 1) < n - i from by omega)
        ·
          refine x_aload_n (pc' := 35) C 0 dX8_addUpLines_34 rfl rfl ?_
          refine x_get (pc' := 38) C dX8_addUpLines_35 rfl ff_X8_11_7 0 rfl rfl ?_
          refine x_iload_n (pc' := 39) C 2 dX8_addUpLines_38 rfl rfl ?_
          refine x_iald (pc' := 40) C i dX8_addUpLines_39 rfl 1 rfl (by omega) (by omega) (by omega) ?_
          refine x_top (b := .int (iI ((xs[i] : Nat) : Int))) (by rw [hl1]) ?_
          refine x_iload_n (pc' := 41) C 3 dX8_addUpLines_40 rfl rfl ?_
          refine x_callN (pc' := 44) (As := [.int (iI ((xs[i] : Nat) : Int)), .int (iI (q : Int))]) (rest := []) C cn_X8_31 dX8_addUpLines_41 rfl (c_X11_holds l E (xs[i]) q (show (xs[i]) < 2147483648 from by omega) (show q < 32 from by omega)) mm_X11_holds (hstk := rfl) (hlen := rfl) (hcat := Nat.le_of_ble_eq_true rfl) (isC := []) (isR := [0, 1, 2, 3, 4, 5, 6]) (wr := [(h, ob 7 [.ref hb, .ref ha, .ref hc, .int (iI (n : Int)), .int (iI sg)]), (hb, ia E 2002 fb), (ha, ia E 2002 a2), (hc, ia E 2002 c2), (g, ob 2 [.ref ga, .ref gb, .int (iI (np : Int)), .ref gf, .ref gt]), (ga, ia E len pa), (gb, ia E len pb)]) (hC := rfl) (hR := rfl) (hnC := rfl) (hn := rfl) (hdis := by decide) (hR1 := ⟨Nat.le_of_ble_eq_true rfl, Nat.le_of_ble_eq_true rfl⟩) (hcs := ⟨Nat.le_of_ble_eq_true rfl, Nat.le_of_ble_eq_true rfl⟩) (fun v_ w_ hp_ => ?_)
          obtain ⟨rfl, rfl⟩ := hp_
          show Wx _ _ _ _ _ _ _ _ _ _ _ _ _ _ _ _ 44 [(0, .ref h), (1, .ref g), (2, .int (iI (i : Int))), (3, .int (iI (q : Int)))] [.int (iI (bI ((xs[i]).testBit q = true)))] [(h, ob 7 [.ref hb, .ref ha, .ref hc, .int (iI (n : Int)), .int (iI sg)]), (hb, ia E 2002 fb), (ha, ia E 2002 a2), (hc, ia E 2002 c2), (g, ob 2 [.ref ga, .ref gb, .int (iI (np : Int)), .ref gf, .ref gt]), (ga, ia E len pa), (gb, ia E len pb)]
          refine x_if_ne (pc' := 47) (tgt := 50) C dX8_addUpLines_44 rfl (by decide) (bI_rng) (fun c44 => ?_) (fun c44 => ?_)
          ·
            replace c44 := bI_nz c44
            refine x_aload_n (pc' := 51) C 0 dX8_addUpLines_50 rfl rfl ?_
            refine x_get (pc' := 54) C dX8_addUpLines_51 rfl ff_X8_15_7 0 rfl rfl ?_
            refine x_iload_n (pc' := 55) C 2 dX8_addUpLines_54 rfl rfl ?_
            refine x_dup2 (pc' := 56) C dX8_addUpLines_55 rfl rfl rfl ?_
            refine x_iald (pc' := 57) C i dX8_addUpLines_56 rfl 2 rfl (by omega) (by omega) (by omega) ?_
            refine x_aload_n (pc' := 58) C 1 dX8_addUpLines_57 rfl rfl ?_
            refine x_get (pc' := 61) C dX8_addUpLines_58 rfl ff_X8_35_2 4 rfl rfl ?_
            refine x_iload_n (pc' := 62) C 3 dX8_addUpLines_61 rfl rfl ?_
            refine x_iald (pc' := 63) C q dX8_addUpLines_62 rfl 5 rfl (by omega) (by omega) (by omega) ?_
            refine x_iadd (pc' := 64) C dX8_addUpLines_63 rfl ?_
            refine x_iast (pc' := 65) (ws' := [(h, ob 7 [.ref hb, .ref ha, .ref hc, .int (iI (n : Int)), .int (iI sg)]), (hb, ia E 2002 fb), (ha, ia E 2002 (va_up a2 i ((a2 i) + (pa q)))), (hc, ia E 2002 c2), (g, ob 2 [.ref ga, .ref gb, .int (iI (np : Int)), .ref gf, .ref gt]), (ga, ia E len pa), (gb, ia E len pb)]) C i dX8_addUpLines_64 rfl 2 rfl (by omega) (by omega) (by omega) rfl ?_
            refine x_aload_n (pc' := 66) C 0 dX8_addUpLines_65 rfl rfl ?_
            refine x_get (pc' := 69) C dX8_addUpLines_66 rfl ff_X8_18_7 0 rfl rfl ?_
            refine x_iload_n (pc' := 70) C 2 dX8_addUpLines_69 rfl rfl ?_
            refine x_dup2 (pc' := 71) C dX8_addUpLines_70 rfl rfl rfl ?_
            refine x_iald (pc' := 72) C i dX8_addUpLines_71 rfl 3 rfl (by omega) (by omega) (by omega) ?_
            refine x_aload_n (pc' := 73) C 1 dX8_addUpLines_72 rfl rfl ?_
            refine x_get (pc' := 76) C dX8_addUpLines_73 rfl ff_X8_36_2 4 rfl rfl ?_
            refine x_iload_n (pc' := 77) C 3 dX8_addUpLines_76 rfl rfl ?_
            refine x_iald (pc' := 78) C q dX8_addUpLines_77 rfl 6 rfl (by omega) (by omega) (by omega) ?_
            refine x_iadd (pc' := 79) C dX8_addUpLines_78 rfl ?_
            refine x_iast (pc' := 80) (ws' := [(h, ob 7 [.ref hb, .ref ha, .ref hc, .int (iI (n : Int)), .int (iI sg)]), (hb, ia E 2002 fb), (ha, ia E 2002 (va_up a2 i ((a2 i) + (pa q)))), (hc, ia E 2002 (va_up c2 i ((c2 i) + (pb q)))), (g, ob 2 [.ref ga, .ref gb, .int (iI (np : Int)), .ref gf, .ref gt]), (ga, ia E len pa), (gb, ia E len pb)]) C i dX8_addUpLines_79 rfl 3 rfl (by omega) (by omega) (by omega) rfl ?_
            refine x_iinc (pc' := 83) (lv' := [(3, .int (iI ((q : Int) + 1))), (0, .ref h), (1, .ref g), (2, .int (iI (i : Int)))]) C 3 dX8_addUpLines_80 rfl (by decide) rfl rfl ?_
            refine x_lvI (lv' := [(3, .int (iI ((q + 1 : Nat) : Int))), (0, .ref h), (1, .ref g), (2, .int (iI (i : Int)))]) 0 rfl (by omega) rfl ?_
            refine x_goto (tgt := 26) C dX8_addUpLines_83 (by decide) ?_
            refine x_lv [1, 2, 3, 0] rfl ?_
            exact ih26 ((q + 1), (va_up a2 i ((a2 i) + (pa q))), (va_up c2 i ((c2 i) + (pb q)))) ⟨(show (q + 1) ≤ np from by omega), (show ∀ j_ (h_ : j_ < xs.length), j_ < i → (va_up a2 i ((a2 i) + (pa q))) j_ = sumB pa xs[j_] np ∧ (va_up c2 i ((c2 i) + (pb q))) j_ = sumB pb xs[j_] np from by first | exact hw | exact add_keep hw), (show (va_up a2 i ((a2 i) + (pa q))) i = sumB pa (xs[i]'hxi) (q + 1) ∧ (va_up c2 i ((c2 i) + (pb q))) i = sumB pb (xs[i]'hxi) (q + 1) from by first | exact add_in hv c44 | exact add_out hv c44)⟩ (show np - (q + 1) < np - q from by omega)
          ·
            replace c44 := bI_z c44
            refine x_goto (tgt := 80) C dX8_addUpLines_47 (by decide) ?_
            refine x_iinc (pc' := 83) (lv' := [(3, .int (iI ((q : Int) + 1))), (0, .ref h), (1, .ref g), (2, .int (iI (i : Int)))]) C 3 dX8_addUpLines_80 rfl (by decide) rfl rfl ?_
            refine x_lvI (lv' := [(3, .int (iI ((q + 1 : Nat) : Int))), (0, .ref h), (1, .ref g), (2, .int (iI (i : Int)))]) 0 rfl (by omega) rfl ?_
            refine x_goto (tgt := 26) C dX8_addUpLines_83 (by decide) ?_
            refine x_lv [1, 2, 3, 0] rfl ?_
            exact ih26 ((q + 1), a2, c2) ⟨(show (q + 1) ≤ np from by omega), (show ∀ j_ (h_ : j_ < xs.length), j_ < i → a2 j_ = sumB pa xs[j_] np ∧ c2 j_ = sumB pb xs[j_] np from by first | exact hw | exact add_keep hw), (show a2 i = sumB pa (xs[i]'hxi) (q + 1) ∧ c2 i = sumB pb (xs[i]'hxi) (q + 1) from by first | exact add_in hv c44 | exact add_out hv c44)⟩ (show np - (q + 1) < np - q from by omega)
      · exact ⟨(show 0 ≤ np from by omega), (show ∀ j_ (h_ : j_ < xs.length), j_ < i → (va_up a1 i 0) j_ = sumB pa xs[j_] np ∧ (va_up c1 i 0) j_ = sumB pb xs[j_] np from add_keep hz), (show (va_up a1 i 0) i = sumB pa (xs[i]'hxi) 0 ∧ (va_up c1 i 0) i = sumB pb (xs[i]'hxi) 0 from ⟨by simp [va_up, sumB], by simp [va_up, sumB]⟩)⟩
  · exact ⟨(show 0 ≤ n from by omega), (show ∀ j_ (h_ : j_ < xs.length), j_ < 0 → fa j_ = sumB pa xs[j_] np ∧ fc j_ = sumB pb xs[j_] np from fun j_ h_ a => absurd a (Nat.not_lt_zero _))⟩
