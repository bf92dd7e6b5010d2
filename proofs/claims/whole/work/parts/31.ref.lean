set_option maxHeartbeats 4000000 in
set_option maxRecDepth 100000 in
theorem c_X12_top (l : Launch) (E : EV) (md : Nat → Nat) (k : Nat) (nl : Nat) (nt : Nat) (nb : Nat) (σ : AS) (mn : Nat) (pm : Nat) (μ : AS) (t : Int) (r_t : -2147483648 ≤ t ∧ t < 2147483648) (hk : k < 5) (hnl : nl ≤ 14) (hnt : nt ≤ 8) (hnb : nb ≤ 8) : MC l E yX12_top cX12_top 3 (some .int) ({ frames := 1, cells := 0, slots := 0, locals := 25 }) [.ref (md 0), .int (iI t)] [((md 0), ob 11 [.int (iI (σ 0 0)), .int (iI (k : Int)), .ref (md 1), .int (iI (nl : Int)), .ref (md 2), .ref (md 3), .int (iI (nt : Int)), .int (iI (σ 0 4)), .ref (md 4), .int (iI (nb : Int)), .long (lI (σ 0 6)), .long (lI (σ 0 7)), .ref (md 5), .ref (md 6), .ref (md 7), .ref (md 8), .int (iI (mn : Int)), .ref (md 9), .ref (md 10), .ref (md 11), .int (iI (pm : Int)), .long (lI (μ 0 0)), .long (lI (μ 0 1)), .long (lI (μ 0 2)), .long (lI (μ 0 3))]), ((md 1), ia E 56 (mI 1 4 σ)), ((md 2), ia E 32 (mI 5 2 σ)), ((md 3), ia E 24 (mI 7 3 σ)), ((md 4), ia E 24 (mI 10 3 σ))] (fun v_ w_ => ∃ (r : Int) (σ2 : AS), v_ = some (.int (iI r)) ∧ w_ = [((md 0), ob 11 [.int (iI (σ2 0 0)), .int (iI (k : Int)), .ref (md 1), .int (iI (nl : Int)), .ref (md 2), .ref (md 3), .int (iI (nt : Int)), .int (iI (σ2 0 4)), .ref (md 4), .int (iI (nb : Int)), .long (lI (σ2 0 6)), .long (lI (σ2 0 7)), .ref (md 5), .ref (md 6), .ref (md 7), .ref (md 8), .int (iI (mn : Int)), .ref (md 9), .ref (md 10), .ref (md 11), .int (iI (pm : Int)), .long (lI (μ 0 0)), .long (lI (μ 0 1)), .long (lI (μ 0 2)), .long (lI (μ 0 3))]), ((md 1), ia E 56 (mI 1 4 σ2)), ((md 2), ia E 32 (mI 5 2 σ2)), ((md 3), ia E 24 (mI 7 3 σ2)), ((md 4), ia E 24 (mI 10 3 σ2))] ∧ ((r, σ2) = sp_top σ t)) := by
  refine MC.of (by decide +kernel) (Nat.le_of_ble_eq_true rfl) ?_
  intro p_ e_ s_ m_ args_ below_ meth_ c_ A_ C hr hnm
  have C : Cx p_ s_ m_ args_ meth_ c_ E A_ 3 cX12_top RX12 := C
  show Wx _ _ _ _ _ _ _ _ _ _ _ _ _ _ _ _ 0 [(0, .ref (md 0)), (1, .int (iI t))] [] [((md 0), ob 11 [.int (iI (σ 0 0)), .int (iI (k : Int)), .ref (md 1), .int (iI (nl : Int)), .ref (md 2), .ref (md 3), .int (iI (nt : Int)), .int (iI (σ 0 4)), .ref (md 4), .int (iI (nb : Int)), .long (lI (σ 0 6)), .long (lI (σ 0 7)), .ref (md 5), .ref (md 6), .ref (md 7), .ref (md 8), .int (iI (mn : Int)), .ref (md 9), .ref (md 10), .ref (md 11), .int (iI (pm : Int)), .long (lI (μ 0 0)), .long (lI (μ 0 1)), .long (lI (μ 0 2)), .long (lI (μ 0 3))]), ((md 1), ia E 56 (mI 1 4 σ)), ((md 2), ia E 32 (mI 5 2 σ)), ((md 3), ia E 24 (mI 7 3 σ)), ((md 4), ia E 24 (mI 10 3 σ))]
  refine x_iload_n (pc' := 1) C 1 dX12_top_0 rfl rfl ?_
  refine x_i2l (pc' := 2) C dX12_top_1 rfl (by omega) ?_
  refine x_lconst (pc' := 3) (z := 1) C dX12_top_2 rfl rfl ?_
  refine x_ldc2 (pc' := 6) (z := 100) C dX12_top_3 rfl kc_X12_57 rfl ?_
  refine x_callS (pc' := 9) (As := [.long (lI t), .long (lI 1), .long (lI 100)]) (rest := []) C cs_X12_59 dX12_top_6 rfl (c_X12_in l E t 1 100 (show -9223372036854775808 ≤ t ∧ t < 9223372036854775808 from by omega) (show -9223372036854775808 ≤ 1 ∧ 1 < 9223372036854775808 from by omega) (show -9223372036854775808 ≤ 100 ∧ 100 < 9223372036854775808 from by omega)) mm_X12_in (hstk := rfl) (hlen := rfl) (hcat := Nat.le_of_ble_eq_true rfl) (isC := []) (isR := [0, 1, 2, 3, 4]) (wr := [((md 0), ob 11 [.int (iI (σ 0 0)), .int (iI (k : Int)), .ref (md 1), .int (iI (nl : Int)), .ref (md 2), .ref (md 3), .int (iI (nt : Int)), .int (iI (σ 0 4)), .ref (md 4), .int (iI (nb : Int)), .long (lI (σ 0 6)), .long (lI (σ 0 7)), .ref (md 5), .ref (md 6), .ref (md 7), .ref (md 8), .int (iI (mn : Int)), .ref (md 9), .ref (md 10), .ref (md 11), .int (iI (pm : Int)), .long (lI (μ 0 0)), .long (lI (μ 0 1)), .long (lI (μ 0 2)), .long (lI (μ 0 3))]), ((md 1), ia E 56 (mI 1 4 σ)), ((md 2), ia E 32 (mI 5 2 σ)), ((md 3), ia E 24 (mI 7 3 σ)), ((md 4), ia E 24 (mI 10 3 σ))]) (hC := rfl) (hR := rfl) (hnC := rfl) (hn := rfl) (hdis := by decide) (hR1 := ⟨Nat.le_of_ble_eq_true rfl, Nat.le_of_ble_eq_true rfl⟩) (hcs := ⟨Nat.le_of_ble_eq_true rfl, Nat.le_of_ble_eq_true rfl⟩) (fun v_ w_ hp_ => ?_)
  obtain ⟨rfl, rfl⟩ := hp_
  show Wx _ _ _ _ _ _ _ _ _ _ _ _ _ _ _ _ 9 [(0, .ref (md 0)), (1, .int (iI t))] [.int (iI (bI (1 ≤ t ∧ t ≤ 100)))] [((md 0), ob 11 [.int (iI (σ 0 0)), .int (iI (k : Int)), .ref (md 1), .int (iI (nl : Int)), .ref (md 2), .ref (md 3), .int (iI (nt : Int)), .int (iI (σ 0 4)), .ref (md 4), .int (iI (nb : Int)), .long (lI (σ 0 6)), .long (lI (σ 0 7)), .ref (md 5), .ref (md 6), .ref (md 7), .ref (md 8), .int (iI (mn : Int)), .ref (md 9), .ref (md 10), .ref (md 11), .int (iI (pm : Int)), .long (lI (μ 0 0)), .long (lI (μ 0 1)), .long (lI (μ 0 2)), .long (lI (μ 0 3))]), ((md 1), ia E 56 (mI 1 4 σ)), ((md 2), ia E 32 (mI 5 2 σ)), ((md 3), ia E 24 (mI 7 3 σ)), ((md 4), ia E 24 (mI 10 3 σ))]
  refine x_if_ne (pc' := 12) (tgt := 15) C dX12_top_9 rfl (by decide) (bI_rng) (fun c9 => ?_) (fun c9 => ?_)
  ·
    replace c9 := bI_nz c9
    refine x_aload_n (pc' := 16) C 0 dX12_top_15 rfl rfl ?_
    refine x_get (pc' := 19) C dX12_top_16 rfl ff_X12_7_11 0 rfl rfl ?_
    refine x_istore_n (pc' := 20) (lv' := [(2, .int (iI (σ 0 0))), (0, .ref (md 0)), (1, .int (iI t))]) C dX12_top_19 rfl (by decide) rfl ?_
    refine x_aload_n (pc' := 21) C 1 dX12_top_20 rfl rfl ?_
    refine x_iload_n (pc' := 22) C 2 dX12_top_21 rfl rfl ?_
    refine x_put (pc' := 25) (ws' := [((md 0), ob 11 [.int (iI t), .int (iI (k : Int)), .ref (md 1), .int (iI (nl : Int)), .ref (md 2), .ref (md 3), .int (iI (nt : Int)), .int (iI (σ 0 4)), .ref (md 4), .int (iI (nb : Int)), .long (lI (σ 0 6)), .long (lI (σ 0 7)), .ref (md 5), .ref (md 6), .ref (md 7), .ref (md 8), .int (iI (mn : Int)), .ref (md 9), .ref (md 10), .ref (md 11), .int (iI (pm : Int)), .long (lI (μ 0 0)), .long (lI (μ 0 1)), .long (lI (μ 0 2)), .long (lI (μ 0 3))]), ((md 1), ia E 56 (mI 1 4 σ)), ((md 2), ia E 32 (mI 5 2 σ)), ((md 3), ia E 24 (mI 7 3 σ)), ((md 4), ia E 24 (mI 10 3 σ))]) C dX12_top_22 rfl pf_X12_7_11 0 rfl rfl rfl (Nat.le_of_ble_eq_true rfl) rfl ?_
    refine x_iload_n (pc' := 26) C 0 dX12_top_25 rfl rfl ?_
    refine x_ws (ws' := [((md 0), ob 11 [.int (iI ((ap σ 0 0 t) 0 0)), .int (iI (k : Int)), .ref (md 1), .int (iI (nl : Int)), .ref (md 2), .ref (md 3), .int (iI (nt : Int)), .int (iI ((ap σ 0 0 t) 0 4)), .ref (md 4), .int (iI (nb : Int)), .long (lI ((ap σ 0 0 t) 0 6)), .long (lI ((ap σ 0 0 t) 0 7)), .ref (md 5), .ref (md 6), .ref (md 7), .ref (md 8), .int (iI (mn : Int)), .ref (md 9), .ref (md 10), .ref (md 11), .int (iI (pm : Int)), .long (lI (μ 0 0)), .long (lI (μ 0 1)), .long (lI (μ 0 2)), .long (lI (μ 0 3))]), ((md 1), ia E 56 (mI 1 4 (ap σ 0 0 t))), ((md 2), ia E 32 (mI 5 2 (ap σ 0 0 t))), ((md 3), ia E 24 (mI 7 3 (ap σ 0 0 t))), ((md 4), ia E 24 (mI 10 3 (ap σ 0 0 t)))]) (by simp only [mI_apO (r := 1) (w := 4) (q := 0) (by decide) (by decide), mI_apO (r := 5) (w := 2) (q := 0) (by decide) (by decide), mI_apO (r := 7) (w := 3) (q := 0) (by decide) (by decide), mI_apO (r := 10) (w := 3) (q := 0) (by decide) (by decide)] <;> rfl) ?_
    exact x_iret C hr dX12_top_26 ⟨(σ 0 0), (ap σ 0 0 t), rfl, rfl, (show ((σ 0 0), (ap σ 0 0 t)) = sp_top σ t from by unfold sp_top; first | rw [if_neg (by omega)] | rw [if_pos (by omega), if_pos (by omega)] | rw [if_pos (by omega), if_neg (by omega)] | rw [if_pos (by omega)])⟩
  ·
    replace c9 := bI_z c9
    refine x_bipush (pc' := 14) C dX12_top_12 rfl rfl ?_
    exact x_iret C hr dX12_top_14 ⟨(-2), σ, rfl, rfl, (show ((-2), σ) = sp_top σ t from by unfold sp_top; first | rw [if_neg (by omega)] | rw [if_pos (by omega), if_pos (by omega)] | rw [if_pos (by omega), if_neg (by omega)] | rw [if_pos (by omega)])⟩

set_option maxHeartbeats 4000000 in
set_option maxRecDepth 100000 in
theorem c_X12_kind (l : Launch) (E : EV) (md : Nat → Nat) (k : Nat) (nl : Nat) (nt : Nat) (nb : Nat) (σ : AS) (mn : Nat) (pm : Nat) (μ : AS) (t : Int) (r_t : -2147483648 ≤ t ∧ t < 2147483648) (hk : k < 5) (hnl : nl ≤ 14) (hnt : nt ≤ 8) (hnb : nb ≤ 8) : MC l E yX12_kind cX12_kind 3 (some .int) ({ frames := 1, cells := 0, slots := 0, locals := 25 }) [.ref (md 0), .int (iI t)] [((md 0), ob 11 [.int (iI (σ 0 0)), .int (iI (k : Int)), .ref (md 1), .int (iI (nl : Int)), .ref (md 2), .ref (md 3), .int (iI (nt : Int)), .int (iI (σ 0 4)), .ref (md 4), .int (iI (nb : Int)), .long (lI (σ 0 6)), .long (lI (σ 0 7)), .ref (md 5), .ref (md 6), .ref (md 7), .ref (md 8), .int (iI (mn : Int)), .ref (md 9), .ref (md 10), .ref (md 11), .int (iI (pm : Int)), .long (lI (μ 0 0)), .long (lI (μ 0 1)), .long (lI (μ 0 2)), .long (lI (μ 0 3))]), ((md 1), ia E 56 (mI 1 4 σ)), ((md 2), ia E 32 (mI 5 2 σ)), ((md 3), ia E 24 (mI 7 3 σ)), ((md 4), ia E 24 (mI 10 3 σ))] (fun v_ w_ => ∃ (r : Int) (k2 : Nat), v_ = some (.int (iI r)) ∧ w_ = [((md 0), ob 11 [.int (iI (σ 0 0)), .int (iI (k2 : Int)), .ref (md 1), .int (iI (nl : Int)), .ref (md 2), .ref (md 3), .int (iI (nt : Int)), .int (iI (σ 0 4)), .ref (md 4), .int (iI (nb : Int)), .long (lI (σ 0 6)), .long (lI (σ 0 7)), .ref (md 5), .ref (md 6), .ref (md 7), .ref (md 8), .int (iI (mn : Int)), .ref (md 9), .ref (md 10), .ref (md 11), .int (iI (pm : Int)), .long (lI (μ 0 0)), .long (lI (μ 0 1)), .long (lI (μ 0 2)), .long (lI (μ 0 3))]), ((md 1), ia E 56 (mI 1 4 σ)), ((md 2), ia E 32 (mI 5 2 σ)), ((md 3), ia E 24 (mI 7 3 σ)), ((md 4), ia E 24 (mI 10 3 σ))] ∧ ((r, k2) = sp_kind k t)) := by
  refine MC.of (by decide +kernel) (Nat.le_of_ble_eq_true rfl) ?_
  intro p_ e_ s_ m_ args_ below_ meth_ c_ A_ C hr hnm
  have C : Cx p_ s_ m_ args_ meth_ c_ E A_ 3 cX12_kind RX12 := C
  show Wx _ _ _ _ _ _ _ _ _ _ _ _ _ _ _ _ 0 [(0, .ref (md 0)), (1, .int (iI t))] [] [((md 0), ob 11 [.int (iI (σ 0 0)), .int (iI (k : Int)), .ref (md 1), .int (iI (nl : Int)), .ref (md 2), .ref (md 3), .int (iI (nt : Int)), .int (iI (σ 0 4)), .ref (md 4), .int (iI (nb : Int)), .long (lI (σ 0 6)), .long (lI (σ 0 7)), .ref (md 5), .ref (md 6), .ref (md 7), .ref (md 8), .int (iI (mn : Int)), .ref (md 9), .ref (md 10), .ref (md 11), .int (iI (pm : Int)), .long (lI (μ 0 0)), .long (lI (μ 0 1)), .long (lI (μ 0 2)), .long (lI (μ 0 3))]), ((md 1), ia E 56 (mI 1 4 σ)), ((md 2), ia E 32 (mI 5 2 σ)), ((md 3), ia E 24 (mI 7 3 σ)), ((md 4), ia E 24 (mI 10 3 σ))]
  refine x_iload_n (pc' := 1) C 1 dX12_kind_0 rfl rfl ?_
  refine x_i2l (pc' := 2) C dX12_kind_1 rfl (by omega) ?_
  refine x_lconst (pc' := 3) (z := 0) C dX12_kind_2 rfl rfl ?_
  refine x_ldc2 (pc' := 6) (z := 4) C dX12_kind_3 rfl kc_X12_63 rfl ?_
  refine x_callS (pc' := 9) (As := [.long (lI t), .long (lI 0), .long (lI 4)]) (rest := []) C cs_X12_59 dX12_kind_6 rfl (c_X12_in l E t 0 4 (show -9223372036854775808 ≤ t ∧ t < 9223372036854775808 from by omega) (show -9223372036854775808 ≤ 0 ∧ 0 < 9223372036854775808 from by omega) (show -9223372036854775808 ≤ 4 ∧ 4 < 9223372036854775808 from by omega)) mm_X12_in (hstk := rfl) (hlen := rfl) (hcat := Nat.le_of_ble_eq_true rfl) (isC := []) (isR := [0, 1, 2, 3, 4]) (wr := [((md 0), ob 11 [.int (iI (σ 0 0)), .int (iI (k : Int)), .ref (md 1), .int (iI (nl : Int)), .ref (md 2), .ref (md 3), .int (iI (nt : Int)), .int (iI (σ 0 4)), .ref (md 4), .int (iI (nb : Int)), .long (lI (σ 0 6)), .long (lI (σ 0 7)), .ref (md 5), .ref (md 6), .ref (md 7), .ref (md 8), .int (iI (mn : Int)), .ref (md 9), .ref (md 10), .ref (md 11), .int (iI (pm : Int)), .long (lI (μ 0 0)), .long (lI (μ 0 1)), .long (lI (μ 0 2)), .long (lI (μ 0 3))]), ((md 1), ia E 56 (mI 1 4 σ)), ((md 2), ia E 32 (mI 5 2 σ)), ((md 3), ia E 24 (mI 7 3 σ)), ((md 4), ia E 24 (mI 10 3 σ))]) (hC := rfl) (hR := rfl) (hnC := rfl) (hn := rfl) (hdis := by decide) (hR1 := ⟨Nat.le_of_ble_eq_true rfl, Nat.le_of_ble_eq_true rfl⟩) (hcs := ⟨Nat.le_of_ble_eq_true rfl, Nat.le_of_ble_eq_true rfl⟩) (fun v_ w_ hp_ => ?_)
  obtain ⟨rfl, rfl⟩ := hp_
  show Wx _ _ _ _ _ _ _ _ _ _ _ _ _ _ _ _ 9 [(0, .ref (md 0)), (1, .int (iI t))] [.int (iI (bI (0 ≤ t ∧ t ≤ 4)))] [((md 0), ob 11 [.int (iI (σ 0 0)), .int (iI (k : Int)), .ref (md 1), .int (iI (nl : Int)), .ref (md 2), .ref (md 3), .int (iI (nt : Int)), .int (iI (σ 0 4)), .ref (md 4), .int (iI (nb : Int)), .long (lI (σ 0 6)), .long (lI (σ 0 7)), .ref (md 5), .ref (md 6), .ref (md 7), .ref (md 8), .int (iI (mn : Int)), .ref (md 9), .ref (md 10), .ref (md 11), .int (iI (pm : Int)), .long (lI (μ 0 0)), .long (lI (μ 0 1)), .long (lI (μ 0 2)), .long (lI (μ 0 3))]), ((md 1), ia E 56 (mI 1 4 σ)), ((md 2), ia E 32 (mI 5 2 σ)), ((md 3), ia E 24 (mI 7 3 σ)), ((md 4), ia E 24 (mI 10 3 σ))]
  refine x_if_ne (pc' := 12) (tgt := 15) C dX12_kind_9 rfl (by decide) (bI_rng) (fun c9 => ?_) (fun c9 => ?_)
  ·
    replace c9 := bI_nz c9
    refine x_aload_n (pc' := 16) C 0 dX12_kind_15 rfl rfl ?_
    refine x_get (pc' := 19) C dX12_kind_16 rfl ff_X12_65_11 0 rfl rfl ?_
    refine x_istore_n (pc' := 20) (lv' := [(2, .int (iI (k : Int))), (0, .ref (md 0)), (1, .int (iI t))]) C dX12_kind_19 rfl (by decide) rfl ?_
    refine x_aload_n (pc' := 21) C 1 dX12_kind_20 rfl rfl ?_
    refine x_iload_n (pc' := 22) C 2 dX12_kind_21 rfl rfl ?_
    refine x_put (pc' := 25) (ws' := [((md 0), ob 11 [.int (iI (σ 0 0)), .int (iI t), .ref (md 1), .int (iI (nl : Int)), .ref (md 2), .ref (md 3), .int (iI (nt : Int)), .int (iI (σ 0 4)), .ref (md 4), .int (iI (nb : Int)), .long (lI (σ 0 6)), .long (lI (σ 0 7)), .ref (md 5), .ref (md 6), .ref (md 7), .ref (md 8), .int (iI (mn : Int)), .ref (md 9), .ref (md 10), .ref (md 11), .int (iI (pm : Int)), .long (lI (μ 0 0)), .long (lI (μ 0 1)), .long (lI (μ 0 2)), .long (lI (μ 0 3))]), ((md 1), ia E 56 (mI 1 4 σ)), ((md 2), ia E 32 (mI 5 2 σ)), ((md 3), ia E 24 (mI 7 3 σ)), ((md 4), ia E 24 (mI 10 3 σ))]) C dX12_kind_22 rfl pf_X12_65_11 0 rfl rfl rfl (Nat.le_of_ble_eq_true rfl) rfl ?_
    refine x_iload_n (pc' := 26) C 0 dX12_kind_25 rfl rfl ?_
    refine x_ws (ws' := [((md 0), ob 11 [.int (iI (σ 0 0)), .int (iI (t.toNat : Int)), .ref (md 1), .int (iI (nl : Int)), .ref (md 2), .ref (md 3), .int (iI (nt : Int)), .int (iI (σ 0 4)), .ref (md 4), .int (iI (nb : Int)), .long (lI (σ 0 6)), .long (lI (σ 0 7)), .ref (md 5), .ref (md 6), .ref (md 7), .ref (md 8), .int (iI (mn : Int)), .ref (md 9), .ref (md 10), .ref (md 11), .int (iI (pm : Int)), .long (lI (μ 0 0)), .long (lI (μ 0 1)), .long (lI (μ 0 2)), .long (lI (μ 0 3))]), ((md 1), ia E 56 (mI 1 4 σ)), ((md 2), ia E 32 (mI 5 2 σ)), ((md 3), ia E 24 (mI 7 3 σ)), ((md 4), ia E 24 (mI 10 3 σ))]) (by rw [show ((t.toNat : Nat) : Int) = t by omega]) ?_
    exact x_iret C hr dX12_kind_26 ⟨(k : Int), t.toNat, rfl, rfl, (show ((k : Int), t.toNat) = sp_kind k t from by unfold sp_kind; first | rw [if_neg (by omega)] | rw [if_pos (by omega), if_pos (by omega)] | rw [if_pos (by omega), if_neg (by omega)] | rw [if_pos (by omega)])⟩
  ·
    replace c9 := bI_z c9
    refine x_bipush (pc' := 14) C dX12_kind_12 rfl rfl ?_
    exact x_iret C hr dX12_kind_14 ⟨(-2), k, rfl, rfl, (show ((-2), k) = sp_kind k t from by unfold sp_kind; first | rw [if_neg (by omega)] | rw [if_pos (by omega), if_pos (by omega)] | rw [if_pos (by omega), if_neg (by omega)] | rw [if_pos (by omega)])⟩

set_option maxHeartbeats 4000000 in
set_option maxRecDepth 100000 in
theorem c_X12_link (l : Launch) (E : EV) (md : Nat → Nat) (k : Nat) (nl : Nat) (nt : Nat) (nb : Nat) (σ : AS) (mn : Nat) (pm : Nat) (μ : AS) (u : Int) (v : Int) (x : Int) (y : Int) (r_u : -2147483648 ≤ u ∧ u < 2147483648) (r_v : -2147483648 ≤ v ∧ v < 2147483648) (r_x : -2147483648 ≤ x ∧ x < 2147483648) (r_y : -2147483648 ≤ y ∧ y < 2147483648) (hk : k < 5) (hnl : nl ≤ 14) (hnt : nt ≤ 8) (hnb : nb ≤ 8) : MC l E yX12_link cX12_link 5 (some .int) ({ frames := 2, cells := 0, slots := 0, locals := 46 }) [.ref (md 0), .int (iI u), .int (iI v), .int (iI x), .int (iI y)] [((md 0), ob 11 [.int (iI (σ 0 0)), .int (iI (k : Int)), .ref (md 1), .int (iI (nl : Int)), .ref (md 2), .ref (md 3), .int (iI (nt : Int)), .int (iI (σ 0 4)), .ref (md 4), .int (iI (nb : Int)), .long (lI (σ 0 6)), .long (lI (σ 0 7)), .ref (md 5), .ref (md 6), .ref (md 7), .ref (md 8), .int (iI (mn : Int)), .ref (md 9), .ref (md 10), .ref (md 11), .int (iI (pm : Int)), .long (lI (μ 0 0)), .long (lI (μ 0 1)), .long (lI (μ 0 2)), .long (lI (μ 0 3))]), ((md 1), ia E 56 (mI 1 4 σ)), ((md 2), ia E 32 (mI 5 2 σ)), ((md 3), ia E 24 (mI 7 3 σ)), ((md 4), ia E 24 (mI 10 3 σ))] (fun v_ w_ => ∃ (r : Int) (nl2 : Nat) (σ2 : AS), v_ = some (.int (iI r)) ∧ w_ = [((md 0), ob 11 [.int (iI (σ2 0 0)), .int (iI (k : Int)), .ref (md 1), .int (iI (nl2 : Int)), .ref (md 2), .ref (md 3), .int (iI (nt : Int)), .int (iI (σ2 0 4)), .ref (md 4), .int (iI (nb : Int)), .long (lI (σ2 0 6)), .long (lI (σ2 0 7)), .ref (md 5), .ref (md 6), .ref (md 7), .ref (md 8), .int (iI (mn : Int)), .ref (md 9), .ref (md 10), .ref (md 11), .int (iI (pm : Int)), .long (lI (μ 0 0)), .long (lI (μ 0 1)), .long (lI (μ 0 2)), .long (lI (μ 0 3))]), ((md 1), ia E 56 (mI 1 4 σ2)), ((md 2), ia E 32 (mI 5 2 σ2)), ((md 3), ia E 24 (mI 7 3 σ2)), ((md 4), ia E 24 (mI 10 3 σ2))] ∧ ((r, nl2, σ2) = sp_link nl σ u v x y)) := by
  refine MC.of (by decide +kernel) (Nat.le_of_ble_eq_true rfl) ?_
  intro p_ e_ s_ m_ args_ below_ meth_ c_ A_ C hr hnm
  have C : Cx p_ s_ m_ args_ meth_ c_ E A_ 5 cX12_link RX12 := C
  show Wx _ _ _ _ _ _ _ _ _ _ _ _ _ _ _ _ 0 [(0, .ref (md 0)), (1, .int (iI u)), (2, .int (iI v)), (3, .int (iI x)), (4, .int (iI y))] [] [((md 0), ob 11 [.int (iI (σ 0 0)), .int (iI (k : Int)), .ref (md 1), .int (iI (nl : Int)), .ref (md 2), .ref (md 3), .int (iI (nt : Int)), .int (iI (σ 0 4)), .ref (md 4), .int (iI (nb : Int)), .long (lI (σ 0 6)), .long (lI (σ 0 7)), .ref (md 5), .ref (md 6), .ref (md 7), .ref (md 8), .int (iI (mn : Int)), .ref (md 9), .ref (md 10), .ref (md 11), .int (iI (pm : Int)), .long (lI (μ 0 0)), .long (lI (μ 0 1)), .long (lI (μ 0 2)), .long (lI (μ 0 3))]), ((md 1), ia E 56 (mI 1 4 σ)), ((md 2), ia E 32 (mI 5 2 σ)), ((md 3), ia E 24 (mI 7 3 σ)), ((md 4), ia E 24 (mI 10 3 σ))]
  refine x_iload_n (pc' := 1) C 1 dX12_link_0 rfl rfl ?_
  refine x_i2l (pc' := 2) C dX12_link_1 rfl (by omega) ?_
  refine x_lconst (pc' := 3) (z := 0) C dX12_link_2 rfl rfl ?_
  refine x_ldc2 (pc' := 6) (z := 5) C dX12_link_3 rfl kc_X12_68 rfl ?_
  refine x_callS (pc' := 9) (As := [.long (lI u), .long (lI 0), .long (lI 5)]) (rest := []) C cs_X12_59 dX12_link_6 rfl (c_X12_in l E u 0 5 (show -9223372036854775808 ≤ u ∧ u < 9223372036854775808 from by omega) (show -9223372036854775808 ≤ 0 ∧ 0 < 9223372036854775808 from by omega) (show -9223372036854775808 ≤ 5 ∧ 5 < 9223372036854775808 from by omega)) mm_X12_in (hstk := rfl) (hlen := rfl) (hcat := Nat.le_of_ble_eq_true rfl) (isC := []) (isR := [0, 1, 2, 3, 4]) (wr := [((md 0), ob 11 [.int (iI (σ 0 0)), .int (iI (k : Int)), .ref (md 1), .int (iI (nl : Int)), .ref (md 2), .ref (md 3), .int (iI (nt : Int)), .int (iI (σ 0 4)), .ref (md 4), .int (iI (nb : Int)), .long (lI (σ 0 6)), .long (lI (σ 0 7)), .ref (md 5), .ref (md 6), .ref (md 7), .ref (md 8), .int (iI (mn : Int)), .ref (md 9), .ref (md 10), .ref (md 11), .int (iI (pm : Int)), .long (lI (μ 0 0)), .long (lI (μ 0 1)), .long (lI (μ 0 2)), .long (lI (μ 0 3))]), ((md 1), ia E 56 (mI 1 4 σ)), ((md 2), ia E 32 (mI 5 2 σ)), ((md 3), ia E 24 (mI 7 3 σ)), ((md 4), ia E 24 (mI 10 3 σ))]) (hC := rfl) (hR := rfl) (hnC := rfl) (hn := rfl) (hdis := by decide) (hR1 := ⟨Nat.le_of_ble_eq_true rfl, Nat.le_of_ble_eq_true rfl⟩) (hcs := ⟨Nat.le_of_ble_eq_true rfl, Nat.le_of_ble_eq_true rfl⟩) (fun v_ w_ hp_ => ?_)
  obtain ⟨rfl, rfl⟩ := hp_
  show Wx _ _ _ _ _ _ _ _ _ _ _ _ _ _ _ _ 9 [(0, .ref (md 0)), (1, .int (iI u)), (2, .int (iI v)), (3, .int (iI x)), (4, .int (iI y))] [.int (iI (bI (0 ≤ u ∧ u ≤ 5)))] [((md 0), ob 11 [.int (iI (σ 0 0)), .int (iI (k : Int)), .ref (md 1), .int (iI (nl : Int)), .ref (md 2), .ref (md 3), .int (iI (nt : Int)), .int (iI (σ 0 4)), .ref (md 4), .int (iI (nb : Int)), .long (lI (σ 0 6)), .long (lI (σ 0 7)), .ref (md 5), .ref (md 6), .ref (md 7), .ref (md 8), .int (iI (mn : Int)), .ref (md 9), .ref (md 10), .ref (md 11), .int (iI (pm : Int)), .long (lI (μ 0 0)), .long (lI (μ 0 1)), .long (lI (μ 0 2)), .long (lI (μ 0 3))]), ((md 1), ia E 56 (mI 1 4 σ)), ((md 2), ia E 32 (mI 5 2 σ)), ((md 3), ia E 24 (mI 7 3 σ)), ((md 4), ia E 24 (mI 10 3 σ))]
  refine x_if_eq (pc' := 12) (tgt := 38) C dX12_link_9 rfl (by decide) (bI_rng) (fun c9 => ?_) (fun c9 => ?_)
  ·
    replace c9 := bI_z c9
    refine x_bipush (pc' := 40) C dX12_link_38 rfl rfl ?_
    exact x_iret C hr dX12_link_40 ⟨(-2), nl, σ, rfl, rfl, (show ((-2), nl, σ) = sp_link nl σ u v x y from by unfold sp_link; first | rw [if_neg (by omega)] | rw [if_pos (by omega), if_pos (by omega)] | rw [if_pos (by omega), if_neg (by omega)] | rw [if_pos (by omega)])⟩
  ·
    replace c9 := bI_nz c9
    refine x_iload_n (pc' := 13) C 2 dX12_link_12 rfl rfl ?_
    refine x_i2l (pc' := 14) C dX12_link_13 rfl (by omega) ?_
    refine x_lconst (pc' := 15) (z := 0) C dX12_link_14 rfl rfl ?_
    refine x_ldc2 (pc' := 18) (z := 5) C dX12_link_15 rfl kc_X12_68 rfl ?_
    refine x_callS (pc' := 21) (As := [.long (lI v), .long (lI 0), .long (lI 5)]) (rest := []) C cs_X12_59 dX12_link_18 rfl (c_X12_in l E v 0 5 (show -9223372036854775808 ≤ v ∧ v < 9223372036854775808 from by omega) (show -9223372036854775808 ≤ 0 ∧ 0 < 9223372036854775808 from by omega) (show -9223372036854775808 ≤ 5 ∧ 5 < 9223372036854775808 from by omega)) mm_X12_in (hstk := rfl) (hlen := rfl) (hcat := Nat.le_of_ble_eq_true rfl) (isC := []) (isR := [0, 1, 2, 3, 4]) (wr := [((md 0), ob 11 [.int (iI (σ 0 0)), .int (iI (k : Int)), .ref (md 1), .int (iI (nl : Int)), .ref (md 2), .ref (md 3), .int (iI (nt : Int)), .int (iI (σ 0 4)), .ref (md 4), .int (iI (nb : Int)), .long (lI (σ 0 6)), .long (lI (σ 0 7)), .ref (md 5), .ref (md 6), .ref (md 7), .ref (md 8), .int (iI (mn : Int)), .ref (md 9), .ref (md 10), .ref (md 11), .int (iI (pm : Int)), .long (lI (μ 0 0)), .long (lI (μ 0 1)), .long (lI (μ 0 2)), .long (lI (μ 0 3))]), ((md 1), ia E 56 (mI 1 4 σ)), ((md 2), ia E 32 (mI 5 2 σ)), ((md 3), ia E 24 (mI 7 3 σ)), ((md 4), ia E 24 (mI 10 3 σ))]) (hC := rfl) (hR := rfl) (hnC := rfl) (hn := rfl) (hdis := by decide) (hR1 := ⟨Nat.le_of_ble_eq_true rfl, Nat.le_of_ble_eq_true rfl⟩) (hcs := ⟨Nat.le_of_ble_eq_true rfl, Nat.le_of_ble_eq_true rfl⟩) (fun v_ w_ hp_ => ?_)
    obtain ⟨rfl, rfl⟩ := hp_
    show Wx _ _ _ _ _ _ _ _ _ _ _ _ _ _ _ _ 21 [(0, .ref (md 0)), (1, .int (iI u)), (2, .int (iI v)), (3, .int (iI x)), (4, .int (iI y))] [.int (iI (bI (0 ≤ v ∧ v ≤ 5)))] [((md 0), ob 11 [.int (iI (σ 0 0)), .int (iI (k : Int)), .ref (md 1), .int (iI (nl : Int)), .ref (md 2), .ref (md 3), .int (iI (nt : Int)), .int (iI (σ 0 4)), .ref (md 4), .int (iI (nb : Int)), .long (lI (σ 0 6)), .long (lI (σ 0 7)), .ref (md 5), .ref (md 6), .ref (md 7), .ref (md 8), .int (iI (mn : Int)), .ref (md 9), .ref (md 10), .ref (md 11), .int (iI (pm : Int)), .long (lI (μ 0 0)), .long (lI (μ 0 1)), .long (lI (μ 0 2)), .long (lI (μ 0 3))]), ((md 1), ia E 56 (mI 1 4 σ)), ((md 2), ia E 32 (mI 5 2 σ)), ((md 3), ia E 24 (mI 7 3 σ)), ((md 4), ia E 24 (mI 10 3 σ))]
    refine x_if_eq (pc' := 24) (tgt := 38) C dX12_link_21 rfl (by decide) (bI_rng) (fun c21 => ?_) (fun c21 => ?_)
    ·
      replace c21 := bI_z c21
      refine x_bipush (pc' := 40) C dX12_link_38 rfl rfl ?_
      exact x_iret C hr dX12_link_40 ⟨(-2), nl, σ, rfl, rfl, (show ((-2), nl, σ) = sp_link nl σ u v x y from by unfold sp_link; first | rw [if_neg (by omega)] | rw [if_pos (by omega), if_pos (by omega)] | rw [if_pos (by omega), if_neg (by omega)] | rw [if_pos (by omega)])⟩
    ·
      replace c21 := bI_nz c21
      refine x_iload_n (pc' := 25) C 1 dX12_link_24 rfl rfl ?_
      refine x_iload_n (pc' := 26) C 2 dX12_link_25 rfl rfl ?_
      refine x_icmp_eq (pc' := 29) (tgt := 38) C dX12_link_26 rfl (by decide) (by omega) (by omega) (fun c26 => ?_) (fun c26 => ?_)
      ·
        refine x_bipush (pc' := 40) C dX12_link_38 rfl rfl ?_
        exact x_iret C hr dX12_link_40 ⟨(-2), nl, σ, rfl, rfl, (show ((-2), nl, σ) = sp_link nl σ u v x y from by unfold sp_link; first | rw [if_neg (by omega)] | rw [if_pos (by omega), if_pos (by omega)] | rw [if_pos (by omega), if_neg (by omega)] | rw [if_pos (by omega)])⟩
      ·
        refine x_iload_n (pc' := 30) C 3 dX12_link_29 rfl rfl ?_
        refine x_iload (pc' := 32) C 4 dX12_link_30 rfl rfl ?_
        refine x_callS (pc' := 35) (As := [.int (iI x), .int (iI y)]) (rest := []) C cs_X12_70 dX12_link_32 rfl (c_X12_isLine l E x y (show -2147483648 ≤ x ∧ x < 2147483648 from by omega) (show -2147483648 ≤ y ∧ y < 2147483648 from by omega)) mm_X12_isLine (hstk := rfl) (hlen := rfl) (hcat := Nat.le_of_ble_eq_true rfl) (isC := []) (isR := [0, 1, 2, 3, 4]) (wr := [((md 0), ob 11 [.int (iI (σ 0 0)), .int (iI (k : Int)), .ref (md 1), .int (iI (nl : Int)), .ref (md 2), .ref (md 3), .int (iI (nt : Int)), .int (iI (σ 0 4)), .ref (md 4), .int (iI (nb : Int)), .long (lI (σ 0 6)), .long (lI (σ 0 7)), .ref (md 5), .ref (md 6), .ref (md 7), .ref (md 8), .int (iI (mn : Int)), .ref (md 9), .ref (md 10), .ref (md 11), .int (iI (pm : Int)), .long (lI (μ 0 0)), .long (lI (μ 0 1)), .long (lI (μ 0 2)), .long (lI (μ 0 3))]), ((md 1), ia E 56 (mI 1 4 σ)), ((md 2), ia E 32 (mI 5 2 σ)), ((md 3), ia E 24 (mI 7 3 σ)), ((md 4), ia E 24 (mI 10 3 σ))]) (hC := rfl) (hR := rfl) (hnC := rfl) (hn := rfl) (hdis := by decide) (hR1 := ⟨Nat.le_of_ble_eq_true rfl, Nat.le_of_ble_eq_true rfl⟩) (hcs := ⟨Nat.le_of_ble_eq_true rfl, Nat.le_of_ble_eq_true rfl⟩) (fun v_ w_ hp_ => ?_)
        obtain ⟨rfl, rfl⟩ := hp_
        show Wx _ _ _ _ _ _ _ _ _ _ _ _ _ _ _ _ 35 [(0, .ref (md 0)), (1, .int (iI u)), (2, .int (iI v)), (3, .int (iI x)), (4, .int (iI y))] [.int (iI (bI ((-100 ≤ x ∧ x ≤ 100) ∧ (-100 ≤ y ∧ y ≤ 100))))] [((md 0), ob 11 [.int (iI (σ 0 0)), .int (iI (k : Int)), .ref (md 1), .int (iI (nl : Int)), .ref (md 2), .ref (md 3), .int (iI (nt : Int)), .int (iI (σ 0 4)), .ref (md 4), .int (iI (nb : Int)), .long (lI (σ 0 6)), .long (lI (σ 0 7)), .ref (md 5), .ref (md 6), .ref (md 7), .ref (md 8), .int (iI (mn : Int)), .ref (md 9), .ref (md 10), .ref (md 11), .int (iI (pm : Int)), .long (lI (μ 0 0)), .long (lI (μ 0 1)), .long (lI (μ 0 2)), .long (lI (μ 0 3))]), ((md 1), ia E 56 (mI 1 4 σ)), ((md 2), ia E 32 (mI 5 2 σ)), ((md 3), ia E 24 (mI 7 3 σ)), ((md 4), ia E 24 (mI 10 3 σ))]
        refine x_if_ne (pc' := 38) (tgt := 41) C dX12_link_35 rfl (by decide) (bI_rng) (fun c35 => ?_) (fun c35 => ?_)
        ·
          replace c35 := bI_nz c35
          refine x_aload_n (pc' := 42) C 0 dX12_link_41 rfl rfl ?_
          refine x_get (pc' := 45) C dX12_link_42 rfl ff_X12_74_11 0 rfl rfl ?_
          refine x_bipush (pc' := 47) C dX12_link_45 rfl rfl ?_
          refine x_icmp_ne (pc' := 50) (tgt := 53) C dX12_link_47 rfl (by decide) (by omega) (by omega) (fun c47 => ?_) (fun c47 => ?_)
          ·
            refine x_aload_n (pc' := 54) C 0 dX12_link_53 rfl rfl ?_
            refine x_get (pc' := 57) C dX12_link_54 rfl ff_X12_13_11 0 rfl rfl ?_
            refine x_iconst (pc' := 58) C dX12_link_57 rfl ?_
            refine x_aload_n (pc' := 59) C 0 dX12_link_58 rfl rfl ?_
            refine x_get (pc' := 62) C dX12_link_59 rfl ff_X12_74_11 0 rfl rfl ?_
            refine x_imul (pc' := 63) C dX12_link_62 rfl ?_
            refine x_iload_n (pc' := 64) C 1 dX12_link_63 rfl rfl ?_
            refine x_iast (pc' := 65) (ws' := [((md 0), ob 11 [.int (iI (σ 0 0)), .int (iI (k : Int)), .ref (md 1), .int (iI (nl : Int)), .ref (md 2), .ref (md 3), .int (iI (nt : Int)), .int (iI (σ 0 4)), .ref (md 4), .int (iI (nb : Int)), .long (lI (σ 0 6)), .long (lI (σ 0 7)), .ref (md 5), .ref (md 6), .ref (md 7), .ref (md 8), .int (iI (mn : Int)), .ref (md 9), .ref (md 10), .ref (md 11), .int (iI (pm : Int)), .long (lI (μ 0 0)), .long (lI (μ 0 1)), .long (lI (μ 0 2)), .long (lI (μ 0 3))]), ((md 1), ia E 56 (va_up (mI 1 4 σ) (4 * nl) u)), ((md 2), ia E 32 (mI 5 2 σ)), ((md 3), ia E 24 (mI 7 3 σ)), ((md 4), ia E 24 (mI 10 3 σ))]) C (4 * nl) dX12_link_64 rfl 1 rfl (by omega) (by omega) (by omega) rfl ?_
            refine x_aload_n (pc' := 66) C 0 dX12_link_65 rfl rfl ?_
            refine x_get (pc' := 69) C dX12_link_66 rfl ff_X12_13_11 0 rfl rfl ?_
            refine x_iconst (pc' := 70) C dX12_link_69 rfl ?_
            refine x_aload_n (pc' := 71) C 0 dX12_link_70 rfl rfl ?_
            refine x_get (pc' := 74) C dX12_link_71 rfl ff_X12_74_11 0 rfl rfl ?_
            refine x_imul (pc' := 75) C dX12_link_74 rfl ?_
            refine x_iconst (pc' := 76) C dX12_link_75 rfl ?_
            refine x_iadd (pc' := 77) C dX12_link_76 rfl ?_
            refine x_iload_n (pc' := 78) C 2 dX12_link_77 rfl rfl ?_
            refine x_iast (pc' := 79) (ws' := [((md 0), ob 11 [.int (iI (σ 0 0)), .int (iI (k : Int)), .ref (md 1), .int (iI (nl : Int)), .ref (md 2), .ref (md 3), .int (iI (nt : Int)), .int (iI (σ 0 4)), .ref (md 4), .int (iI (nb : Int)), .long (lI (σ 0 6)), .long (lI (σ 0 7)), .ref (md 5), .ref (md 6), .ref (md 7), .ref (md 8), .int (iI (mn : Int)), .ref (md 9), .ref (md 10), .ref (md 11), .int (iI (pm : Int)), .long (lI (μ 0 0)), .long (lI (μ 0 1)), .long (lI (μ 0 2)), .long (lI (μ 0 3))]), ((md 1), ia E 56 (va_up (va_up (mI 1 4 σ) (4 * nl) u) ((4 * nl) + 1) v)), ((md 2), ia E 32 (mI 5 2 σ)), ((md 3), ia E 24 (mI 7 3 σ)), ((md 4), ia E 24 (mI 10 3 σ))]) C ((4 * nl) + 1) dX12_link_78 rfl 1 rfl (by omega) (by omega) (by omega) rfl ?_
            refine x_aload_n (pc' := 80) C 0 dX12_link_79 rfl rfl ?_
            refine x_get (pc' := 83) C dX12_link_80 rfl ff_X12_13_11 0 rfl rfl ?_
            refine x_iconst (pc' := 84) C dX12_link_83 rfl ?_
            refine x_aload_n (pc' := 85) C 0 dX12_link_84 rfl rfl ?_
            refine x_get (pc' := 88) C dX12_link_85 rfl ff_X12_74_11 0 rfl rfl ?_
            refine x_imul (pc' := 89) C dX12_link_88 rfl ?_
            refine x_iconst (pc' := 90) C dX12_link_89 rfl ?_
            refine x_iadd (pc' := 91) C dX12_link_90 rfl ?_
            refine x_iload_n (pc' := 92) C 3 dX12_link_91 rfl rfl ?_
            refine x_iast (pc' := 93) (ws' := [((md 0), ob 11 [.int (iI (σ 0 0)), .int (iI (k : Int)), .ref (md 1), .int (iI (nl : Int)), .ref (md 2), .ref (md 3), .int (iI (nt : Int)), .int (iI (σ 0 4)), .ref (md 4), .int (iI (nb : Int)), .long (lI (σ 0 6)), .long (lI (σ 0 7)), .ref (md 5), .ref (md 6), .ref (md 7), .ref (md 8), .int (iI (mn : Int)), .ref (md 9), .ref (md 10), .ref (md 11), .int (iI (pm : Int)), .long (lI (μ 0 0)), .long (lI (μ 0 1)), .long (lI (μ 0 2)), .long (lI (μ 0 3))]), ((md 1), ia E 56 (va_up (va_up (va_up (mI 1 4 σ) (4 * nl) u) ((4 * nl) + 1) v) ((4 * nl) + 2) x)), ((md 2), ia E 32 (mI 5 2 σ)), ((md 3), ia E 24 (mI 7 3 σ)), ((md 4), ia E 24 (mI 10 3 σ))]) C ((4 * nl) + 2) dX12_link_92 rfl 1 rfl (by omega) (by omega) (by omega) rfl ?_
            refine x_aload_n (pc' := 94) C 0 dX12_link_93 rfl rfl ?_
            refine x_get (pc' := 97) C dX12_link_94 rfl ff_X12_13_11 0 rfl rfl ?_
            refine x_iconst (pc' := 98) C dX12_link_97 rfl ?_
            refine x_aload_n (pc' := 99) C 0 dX12_link_98 rfl rfl ?_
            refine x_get (pc' := 102) C dX12_link_99 rfl ff_X12_74_11 0 rfl rfl ?_
            refine x_imul (pc' := 103) C dX12_link_102 rfl ?_
            refine x_iconst (pc' := 104) C dX12_link_103 rfl ?_
            refine x_iadd (pc' := 105) C dX12_link_104 rfl ?_
            refine x_iload (pc' := 107) C 4 dX12_link_105 rfl rfl ?_
            refine x_iast (pc' := 108) (ws' := [((md 0), ob 11 [.int (iI (σ 0 0)), .int (iI (k : Int)), .ref (md 1), .int (iI (nl : Int)), .ref (md 2), .ref (md 3), .int (iI (nt : Int)), .int (iI (σ 0 4)), .ref (md 4), .int (iI (nb : Int)), .long (lI (σ 0 6)), .long (lI (σ 0 7)), .ref (md 5), .ref (md 6), .ref (md 7), .ref (md 8), .int (iI (mn : Int)), .ref (md 9), .ref (md 10), .ref (md 11), .int (iI (pm : Int)), .long (lI (μ 0 0)), .long (lI (μ 0 1)), .long (lI (μ 0 2)), .long (lI (μ 0 3))]), ((md 1), ia E 56 (va_up (va_up (va_up (va_up (mI 1 4 σ) (4 * nl) u) ((4 * nl) + 1) v) ((4 * nl) + 2) x) ((4 * nl) + 3) y)), ((md 2), ia E 32 (mI 5 2 σ)), ((md 3), ia E 24 (mI 7 3 σ)), ((md 4), ia E 24 (mI 10 3 σ))]) C ((4 * nl) + 3) dX12_link_107 rfl 1 rfl (by omega) (by omega) (by omega) rfl ?_
            refine x_aload_n (pc' := 109) C 0 dX12_link_108 rfl rfl ?_
            refine x_dup (pc' := 110) C dX12_link_109 rfl rfl ?_
            refine x_get (pc' := 113) C dX12_link_110 rfl ff_X12_74_11 0 rfl rfl ?_
            refine x_iconst (pc' := 114) C dX12_link_113 rfl ?_
            refine x_iadd (pc' := 115) C dX12_link_114 rfl ?_
            refine x_top (b := .int (iI ((nl + 1 : Nat) : Int))) (rfl) ?_
            refine x_put (pc' := 118) (ws' := [((md 0), ob 11 [.int (iI (σ 0 0)), .int (iI (k : Int)), .ref (md 1), .int (iI ((nl + 1 : Nat) : Int)), .ref (md 2), .ref (md 3), .int (iI (nt : Int)), .int (iI (σ 0 4)), .ref (md 4), .int (iI (nb : Int)), .long (lI (σ 0 6)), .long (lI (σ 0 7)), .ref (md 5), .ref (md 6), .ref (md 7), .ref (md 8), .int (iI (mn : Int)), .ref (md 9), .ref (md 10), .ref (md 11), .int (iI (pm : Int)), .long (lI (μ 0 0)), .long (lI (μ 0 1)), .long (lI (μ 0 2)), .long (lI (μ 0 3))]), ((md 1), ia E 56 (va_up (va_up (va_up (va_up (mI 1 4 σ) (4 * nl) u) ((4 * nl) + 1) v) ((4 * nl) + 2) x) ((4 * nl) + 3) y)), ((md 2), ia E 32 (mI 5 2 σ)), ((md 3), ia E 24 (mI 7 3 σ)), ((md 4), ia E 24 (mI 10 3 σ))]) C dX12_link_115 rfl pf_X12_74_11 0 rfl rfl rfl (Nat.le_of_ble_eq_true rfl) rfl ?_
            refine x_aload_n (pc' := 119) C 0 dX12_link_118 rfl rfl ?_
            refine x_get (pc' := 122) C dX12_link_119 rfl ff_X12_74_11 0 rfl rfl ?_
            refine x_iconst (pc' := 123) C dX12_link_122 rfl ?_
            refine x_isub (pc' := 124) C dX12_link_123 rfl ?_
            refine x_top (b := .int (iI (nl : Int))) (by congr 2; omega) ?_
            refine x_ws (ws' := [((md 0), ob 11 [.int (iI ((ap (ap (ap (ap σ 1 nl u) 2 nl v) 3 nl x) 4 nl y) 0 0)), .int (iI (k : Int)), .ref (md 1), .int (iI ((nl + 1 : Nat) : Int)), .ref (md 2), .ref (md 3), .int (iI (nt : Int)), .int (iI ((ap (ap (ap (ap σ 1 nl u) 2 nl v) 3 nl x) 4 nl y) 0 4)), .ref (md 4), .int (iI (nb : Int)), .long (lI ((ap (ap (ap (ap σ 1 nl u) 2 nl v) 3 nl x) 4 nl y) 0 6)), .long (lI ((ap (ap (ap (ap σ 1 nl u) 2 nl v) 3 nl x) 4 nl y) 0 7)), .ref (md 5), .ref (md 6), .ref (md 7), .ref (md 8), .int (iI (mn : Int)), .ref (md 9), .ref (md 10), .ref (md 11), .int (iI (pm : Int)), .long (lI (μ 0 0)), .long (lI (μ 0 1)), .long (lI (μ 0 2)), .long (lI (μ 0 3))]), ((md 1), ia E 56 (mI 1 4 (ap (ap (ap (ap σ 1 nl u) 2 nl v) 3 nl x) 4 nl y))), ((md 2), ia E 32 (mI 5 2 (ap (ap (ap (ap σ 1 nl u) 2 nl v) 3 nl x) 4 nl y))), ((md 3), ia E 24 (mI 7 3 (ap (ap (ap (ap σ 1 nl u) 2 nl v) 3 nl x) 4 nl y))), ((md 4), ia E 24 (mI 10 3 (ap (ap (ap (ap σ 1 nl u) 2 nl v) 3 nl x) 4 nl y)))]) (by simp only [mI_ap0 (r := 1) (w := 4) (by decide), mI_ap (r := 1) (w := 4) (d := 1) (by decide), mI_ap (r := 1) (w := 4) (d := 2) (by decide), mI_ap (r := 1) (w := 4) (d := 3) (by decide), mI_apO (r := 5) (w := 2) (q := 1) (by decide) (by decide), mI_apO (r := 5) (w := 2) (q := 2) (by decide) (by decide), mI_apO (r := 5) (w := 2) (q := 3) (by decide) (by decide), mI_apO (r := 5) (w := 2) (q := 4) (by decide) (by decide), mI_apO (r := 7) (w := 3) (q := 1) (by decide) (by decide), mI_apO (r := 7) (w := 3) (q := 2) (by decide) (by decide), mI_apO (r := 7) (w := 3) (q := 3) (by decide) (by decide), mI_apO (r := 7) (w := 3) (q := 4) (by decide) (by decide), mI_apO (r := 10) (w := 3) (q := 1) (by decide) (by decide), mI_apO (r := 10) (w := 3) (q := 2) (by decide) (by decide), mI_apO (r := 10) (w := 3) (q := 3) (by decide) (by decide), mI_apO (r := 10) (w := 3) (q := 4) (by decide) (by decide)] <;> rfl) ?_
            exact x_iret C hr dX12_link_124 ⟨(nl : Int), (nl + 1), (ap (ap (ap (ap σ 1 nl u) 2 nl v) 3 nl x) 4 nl y), rfl, rfl, (show ((nl : Int), (nl + 1), (ap (ap (ap (ap σ 1 nl u) 2 nl v) 3 nl x) 4 nl y)) = sp_link nl σ u v x y from by unfold sp_link; first | rw [if_neg (by omega)] | rw [if_pos (by omega), if_pos (by omega)] | rw [if_pos (by omega), if_neg (by omega)] | rw [if_pos (by omega)])⟩
          ·
            refine x_bipush (pc' := 52) C dX12_link_50 rfl rfl ?_
            exact x_iret C hr dX12_link_52 ⟨(-4), nl, σ, rfl, rfl, (show ((-4), nl, σ) = sp_link nl σ u v x y from by unfold sp_link; first | rw [if_neg (by omega)] | rw [if_pos (by omega), if_pos (by omega)] | rw [if_pos (by omega), if_neg (by omega)] | rw [if_pos (by omega)])⟩
        ·
          replace c35 := bI_z c35
          refine x_bipush (pc' := 40) C dX12_link_38 rfl rfl ?_
          exact x_iret C hr dX12_link_40 ⟨(-2), nl, σ, rfl, rfl, (show ((-2), nl, σ) = sp_link nl σ u v x y from by unfold sp_link; first | rw [if_neg (by omega)] | rw [if_pos (by omega), if_pos (by omega)] | rw [if_pos (by omega), if_neg (by omega)] | rw [if_pos (by omega)])⟩

set_option maxHeartbeats 4000000 in
set_option maxRecDepth 100000 in
theorem c_X12_pair (l : Launch) (E : EV) (md : Nat → Nat) (k : Nat) (nl : Nat) (nt : Nat) (nb : Nat) (σ : AS) (mn : Nat) (pm : Nat) (μ : AS) (u : Int) (v : Int) (x : Int) (y : Int) (r_u : -2147483648 ≤ u ∧ u < 2147483648) (r_v : -2147483648 ≤ v ∧ v < 2147483648) (r_x : -2147483648 ≤ x ∧ x < 2147483648) (r_y : -2147483648 ≤ y ∧ y < 2147483648) (hk : k < 5) (hnl : nl ≤ 14) (hnt : nt ≤ 8) (hnb : nb ≤ 8) : MC l E yX12_pair cX12_pair 5 (some .int) ({ frames := 2, cells := 0, slots := 0, locals := 46 }) [.ref (md 0), .int (iI u), .int (iI v), .int (iI x), .int (iI y)] [((md 0), ob 11 [.int (iI (σ 0 0)), .int (iI (k : Int)), .ref (md 1), .int (iI (nl : Int)), .ref (md 2), .ref (md 3), .int (iI (nt : Int)), .int (iI (σ 0 4)), .ref (md 4), .int (iI (nb : Int)), .long (lI (σ 0 6)), .long (lI (σ 0 7)), .ref (md 5), .ref (md 6), .ref (md 7), .ref (md 8), .int (iI (mn : Int)), .ref (md 9), .ref (md 10), .ref (md 11), .int (iI (pm : Int)), .long (lI (μ 0 0)), .long (lI (μ 0 1)), .long (lI (μ 0 2)), .long (lI (μ 0 3))]), ((md 1), ia E 56 (mI 1 4 σ)), ((md 2), ia E 32 (mI 5 2 σ)), ((md 3), ia E 24 (mI 7 3 σ)), ((md 4), ia E 24 (mI 10 3 σ))] (fun v_ w_ => ∃ (r : Int) (σ2 : AS), v_ = some (.int (iI r)) ∧ w_ = [((md 0), ob 11 [.int (iI (σ2 0 0)), .int (iI (k : Int)), .ref (md 1), .int (iI (nl : Int)), .ref (md 2), .ref (md 3), .int (iI (nt : Int)), .int (iI (σ2 0 4)), .ref (md 4), .int (iI (nb : Int)), .long (lI (σ2 0 6)), .long (lI (σ2 0 7)), .ref (md 5), .ref (md 6), .ref (md 7), .ref (md 8), .int (iI (mn : Int)), .ref (md 9), .ref (md 10), .ref (md 11), .int (iI (pm : Int)), .long (lI (μ 0 0)), .long (lI (μ 0 1)), .long (lI (μ 0 2)), .long (lI (μ 0 3))]), ((md 1), ia E 56 (mI 1 4 σ2)), ((md 2), ia E 32 (mI 5 2 σ2)), ((md 3), ia E 24 (mI 7 3 σ2)), ((md 4), ia E 24 (mI 10 3 σ2))] ∧ ((r, σ2) = sp_pair σ u v x y)) := by
  refine MC.of (by decide +kernel) (Nat.le_of_ble_eq_true rfl) ?_
  intro p_ e_ s_ m_ args_ below_ meth_ c_ A_ C hr hnm
  have C : Cx p_ s_ m_ args_ meth_ c_ E A_ 5 cX12_pair RX12 := C
  show Wx _ _ _ _ _ _ _ _ _ _ _ _ _ _ _ _ 0 [(0, .ref (md 0)), (1, .int (iI u)), (2, .int (iI v)), (3, .int (iI x)), (4, .int (iI y))] [] [((md 0), ob 11 [.int (iI (σ 0 0)), .int (iI (k : Int)), .ref (md 1), .int (iI (nl : Int)), .ref (md 2), .ref (md 3), .int (iI (nt : Int)), .int (iI (σ 0 4)), .ref (md 4), .int (iI (nb : Int)), .long (lI (σ 0 6)), .long (lI (σ 0 7)), .ref (md 5), .ref (md 6), .ref (md 7), .ref (md 8), .int (iI (mn : Int)), .ref (md 9), .ref (md 10), .ref (md 11), .int (iI (pm : Int)), .long (lI (μ 0 0)), .long (lI (μ 0 1)), .long (lI (μ 0 2)), .long (lI (μ 0 3))]), ((md 1), ia E 56 (mI 1 4 σ)), ((md 2), ia E 32 (mI 5 2 σ)), ((md 3), ia E 24 (mI 7 3 σ)), ((md 4), ia E 24 (mI 10 3 σ))]
  refine x_iload_n (pc' := 1) C 1 dX12_pair_0 rfl rfl ?_
  refine x_i2l (pc' := 2) C dX12_pair_1 rfl (by omega) ?_
  refine x_lconst (pc' := 3) (z := 0) C dX12_pair_2 rfl rfl ?_
  refine x_ldc2 (pc' := 6) (z := 3) C dX12_pair_3 rfl kc_X12_77 rfl ?_
  refine x_callS (pc' := 9) (As := [.long (lI u), .long (lI 0), .long (lI 3)]) (rest := []) C cs_X12_59 dX12_pair_6 rfl (c_X12_in l E u 0 3 (show -9223372036854775808 ≤ u ∧ u < 9223372036854775808 from by omega) (show -9223372036854775808 ≤ 0 ∧ 0 < 9223372036854775808 from by omega) (show -9223372036854775808 ≤ 3 ∧ 3 < 9223372036854775808 from by omega)) mm_X12_in (hstk := rfl) (hlen := rfl) (hcat := Nat.le_of_ble_eq_true rfl) (isC := []) (isR := [0, 1, 2, 3, 4]) (wr := [((md 0), ob 11 [.int (iI (σ 0 0)), .int (iI (k : Int)), .ref (md 1), .int (iI (nl : Int)), .ref (md 2), .ref (md 3), .int (iI (nt : Int)), .int (iI (σ 0 4)), .ref (md 4), .int (iI (nb : Int)), .long (lI (σ 0 6)), .long (lI (σ 0 7)), .ref (md 5), .ref (md 6), .ref (md 7), .ref (md 8), .int (iI (mn : Int)), .ref (md 9), .ref (md 10), .ref (md 11), .int (iI (pm : Int)), .long (lI (μ 0 0)), .long (lI (μ 0 1)), .long (lI (μ 0 2)), .long (lI (μ 0 3))]), ((md 1), ia E 56 (mI 1 4 σ)), ((md 2), ia E 32 (mI 5 2 σ)), ((md 3), ia E 24 (mI 7 3 σ)), ((md 4), ia E 24 (mI 10 3 σ))]) (hC := rfl) (hR := rfl) (hnC := rfl) (hn := rfl) (hdis := by decide) (hR1 := ⟨Nat.le_of_ble_eq_true rfl, Nat.le_of_ble_eq_true rfl⟩) (hcs := ⟨Nat.le_of_ble_eq_true rfl, Nat.le_of_ble_eq_true rfl⟩) (fun v_ w_ hp_ => ?_)
  obtain ⟨rfl, rfl⟩ := hp_
  show Wx _ _ _ _ _ _ _ _ _ _ _ _ _ _ _ _ 9 [(0, .ref (md 0)), (1, .int (iI u)), (2, .int (iI v)), (3, .int (iI x)), (4, .int (iI y))] [.int (iI (bI (0 ≤ u ∧ u ≤ 3)))] [((md 0), ob 11 [.int (iI (σ 0 0)), .int (iI (k : Int)), .ref (md 1), .int (iI (nl : Int)), .ref (md 2), .ref (md 3), .int (iI (nt : Int)), .int (iI (σ 0 4)), .ref (md 4), .int (iI (nb : Int)), .long (lI (σ 0 6)), .long (lI (σ 0 7)), .ref (md 5), .ref (md 6), .ref (md 7), .ref (md 8), .int (iI (mn : Int)), .ref (md 9), .ref (md 10), .ref (md 11), .int (iI (pm : Int)), .long (lI (μ 0 0)), .long (lI (μ 0 1)), .long (lI (μ 0 2)), .long (lI (μ 0 3))]), ((md 1), ia E 56 (mI 1 4 σ)), ((md 2), ia E 32 (mI 5 2 σ)), ((md 3), ia E 24 (mI 7 3 σ)), ((md 4), ia E 24 (mI 10 3 σ))]
  refine x_if_eq (pc' := 12) (tgt := 33) C dX12_pair_9 rfl (by decide) (bI_rng) (fun c9 => ?_) (fun c9 => ?_)
  ·
    replace c9 := bI_z c9
    refine x_bipush (pc' := 35) C dX12_pair_33 rfl rfl ?_
    exact x_iret C hr dX12_pair_35 ⟨(-2), σ, rfl, rfl, (show ((-2), σ) = sp_pair σ u v x y from by unfold sp_pair; first | rw [if_neg (by omega)] | rw [if_pos (by omega), if_pos (by omega)] | rw [if_pos (by omega), if_neg (by omega)] | rw [if_pos (by omega)])⟩
  ·
    replace c9 := bI_nz c9
    refine x_iload_n (pc' := 13) C 2 dX12_pair_12 rfl rfl ?_
    refine x_i2l (pc' := 14) C dX12_pair_13 rfl (by omega) ?_
    refine x_lconst (pc' := 15) (z := 0) C dX12_pair_14 rfl rfl ?_
    refine x_ldc2 (pc' := 18) (z := 3) C dX12_pair_15 rfl kc_X12_77 rfl ?_
    refine x_callS (pc' := 21) (As := [.long (lI v), .long (lI 0), .long (lI 3)]) (rest := []) C cs_X12_59 dX12_pair_18 rfl (c_X12_in l E v 0 3 (show -9223372036854775808 ≤ v ∧ v < 9223372036854775808 from by omega) (show -9223372036854775808 ≤ 0 ∧ 0 < 9223372036854775808 from by omega) (show -9223372036854775808 ≤ 3 ∧ 3 < 9223372036854775808 from by omega)) mm_X12_in (hstk := rfl) (hlen := rfl) (hcat := Nat.le_of_ble_eq_true rfl) (isC := []) (isR := [0, 1, 2, 3, 4]) (wr := [((md 0), ob 11 [.int (iI (σ 0 0)), .int (iI (k : Int)), .ref (md 1), .int (iI (nl : Int)), .ref (md 2), .ref (md 3), .int (iI (nt : Int)), .int (iI (σ 0 4)), .ref (md 4), .int (iI (nb : Int)), .long (lI (σ 0 6)), .long (lI (σ 0 7)), .ref (md 5), .ref (md 6), .ref (md 7), .ref (md 8), .int (iI (mn : Int)), .ref (md 9), .ref (md 10), .ref (md 11), .int (iI (pm : Int)), .long (lI (μ 0 0)), .long (lI (μ 0 1)), .long (lI (μ 0 2)), .long (lI (μ 0 3))]), ((md 1), ia E 56 (mI 1 4 σ)), ((md 2), ia E 32 (mI 5 2 σ)), ((md 3), ia E 24 (mI 7 3 σ)), ((md 4), ia E 24 (mI 10 3 σ))]) (hC := rfl) (hR := rfl) (hnC := rfl) (hn := rfl) (hdis := by decide) (hR1 := ⟨Nat.le_of_ble_eq_true rfl, Nat.le_of_ble_eq_true rfl⟩) (hcs := ⟨Nat.le_of_ble_eq_true rfl, Nat.le_of_ble_eq_true rfl⟩) (fun v_ w_ hp_ => ?_)
    obtain ⟨rfl, rfl⟩ := hp_
    show Wx _ _ _ _ _ _ _ _ _ _ _ _ _ _ _ _ 21 [(0, .ref (md 0)), (1, .int (iI u)), (2, .int (iI v)), (3, .int (iI x)), (4, .int (iI y))] [.int (iI (bI (0 ≤ v ∧ v ≤ 3)))] [((md 0), ob 11 [.int (iI (σ 0 0)), .int (iI (k : Int)), .ref (md 1), .int (iI (nl : Int)), .ref (md 2), .ref (md 3), .int (iI (nt : Int)), .int (iI (σ 0 4)), .ref (md 4), .int (iI (nb : Int)), .long (lI (σ 0 6)), .long (lI (σ 0 7)), .ref (md 5), .ref (md 6), .ref (md 7), .ref (md 8), .int (iI (mn : Int)), .ref (md 9), .ref (md 10), .ref (md 11), .int (iI (pm : Int)), .long (lI (μ 0 0)), .long (lI (μ 0 1)), .long (lI (μ 0 2)), .long (lI (μ 0 3))]), ((md 1), ia E 56 (mI 1 4 σ)), ((md 2), ia E 32 (mI 5 2 σ)), ((md 3), ia E 24 (mI 7 3 σ)), ((md 4), ia E 24 (mI 10 3 σ))]
    refine x_if_eq (pc' := 24) (tgt := 33) C dX12_pair_21 rfl (by decide) (bI_rng) (fun c21 => ?_) (fun c21 => ?_)
    ·
      replace c21 := bI_z c21
      refine x_bipush (pc' := 35) C dX12_pair_33 rfl rfl ?_
      exact x_iret C hr dX12_pair_35 ⟨(-2), σ, rfl, rfl, (show ((-2), σ) = sp_pair σ u v x y from by unfold sp_pair; first | rw [if_neg (by omega)] | rw [if_pos (by omega), if_pos (by omega)] | rw [if_pos (by omega), if_neg (by omega)] | rw [if_pos (by omega)])⟩
    ·
      replace c21 := bI_nz c21
      refine x_iload_n (pc' := 25) C 3 dX12_pair_24 rfl rfl ?_
      refine x_iload (pc' := 27) C 4 dX12_pair_25 rfl rfl ?_
      refine x_callS (pc' := 30) (As := [.int (iI x), .int (iI y)]) (rest := []) C cs_X12_70 dX12_pair_27 rfl (c_X12_isLine l E x y (show -2147483648 ≤ x ∧ x < 2147483648 from by omega) (show -2147483648 ≤ y ∧ y < 2147483648 from by omega)) mm_X12_isLine (hstk := rfl) (hlen := rfl) (hcat := Nat.le_of_ble_eq_true rfl) (isC := []) (isR := [0, 1, 2, 3, 4]) (wr := [((md 0), ob 11 [.int (iI (σ 0 0)), .int (iI (k : Int)), .ref (md 1), .int (iI (nl : Int)), .ref (md 2), .ref (md 3), .int (iI (nt : Int)), .int (iI (σ 0 4)), .ref (md 4), .int (iI (nb : Int)), .long (lI (σ 0 6)), .long (lI (σ 0 7)), .ref (md 5), .ref (md 6), .ref (md 7), .ref (md 8), .int (iI (mn : Int)), .ref (md 9), .ref (md 10), .ref (md 11), .int (iI (pm : Int)), .long (lI (μ 0 0)), .long (lI (μ 0 1)), .long (lI (μ 0 2)), .long (lI (μ 0 3))]), ((md 1), ia E 56 (mI 1 4 σ)), ((md 2), ia E 32 (mI 5 2 σ)), ((md 3), ia E 24 (mI 7 3 σ)), ((md 4), ia E 24 (mI 10 3 σ))]) (hC := rfl) (hR := rfl) (hnC := rfl) (hn := rfl) (hdis := by decide) (hR1 := ⟨Nat.le_of_ble_eq_true rfl, Nat.le_of_ble_eq_true rfl⟩) (hcs := ⟨Nat.le_of_ble_eq_true rfl, Nat.le_of_ble_eq_true rfl⟩) (fun v_ w_ hp_ => ?_)
      obtain ⟨rfl, rfl⟩ := hp_
      show Wx _ _ _ _ _ _ _ _ _ _ _ _ _ _ _ _ 30 [(0, .ref (md 0)), (1, .int (iI u)), (2, .int (iI v)), (3, .int (iI x)), (4, .int (iI y))] [.int (iI (bI ((-100 ≤ x ∧ x ≤ 100) ∧ (-100 ≤ y ∧ y ≤ 100))))] [((md 0), ob 11 [.int (iI (σ 0 0)), .int (iI (k : Int)), .ref (md 1), .int (iI (nl : Int)), .ref (md 2), .ref (md 3), .int (iI (nt : Int)), .int (iI (σ 0 4)), .ref (md 4), .int (iI (nb : Int)), .long (lI (σ 0 6)), .long (lI (σ 0 7)), .ref (md 5), .ref (md 6), .ref (md 7), .ref (md 8), .int (iI (mn : Int)), .ref (md 9), .ref (md 10), .ref (md 11), .int (iI (pm : Int)), .long (lI (μ 0 0)), .long (lI (μ 0 1)), .long (lI (μ 0 2)), .long (lI (μ 0 3))]), ((md 1), ia E 56 (mI 1 4 σ)), ((md 2), ia E 32 (mI 5 2 σ)), ((md 3), ia E 24 (mI 7 3 σ)), ((md 4), ia E 24 (mI 10 3 σ))]
      refine x_if_ne (pc' := 33) (tgt := 36) C dX12_pair_30 rfl (by decide) (bI_rng) (fun c30 => ?_) (fun c30 => ?_)
      ·
        replace c30 := bI_nz c30
        refine x_aload_n (pc' := 37) C 0 dX12_pair_36 rfl rfl ?_
        refine x_get (pc' := 40) C dX12_pair_37 rfl ff_X12_17_11 0 rfl rfl ?_
        refine x_iconst (pc' := 41) C dX12_pair_40 rfl ?_
        refine x_iconst (pc' := 42) C dX12_pair_41 rfl ?_
        refine x_iload_n (pc' := 43) C 1 dX12_pair_42 rfl rfl ?_
        refine x_imul (pc' := 44) C dX12_pair_43 rfl ?_
        refine x_iload_n (pc' := 45) C 2 dX12_pair_44 rfl rfl ?_
        refine x_iadd (pc' := 46) C dX12_pair_45 rfl ?_
        refine x_imul (pc' := 47) C dX12_pair_46 rfl ?_
        refine x_iload_n (pc' := 48) C 3 dX12_pair_47 rfl rfl ?_
        refine x_iast (pc' := 49) (ws' := [((md 0), ob 11 [.int (iI (σ 0 0)), .int (iI (k : Int)), .ref (md 1), .int (iI (nl : Int)), .ref (md 2), .ref (md 3), .int (iI (nt : Int)), .int (iI (σ 0 4)), .ref (md 4), .int (iI (nb : Int)), .long (lI (σ 0 6)), .long (lI (σ 0 7)), .ref (md 5), .ref (md 6), .ref (md 7), .ref (md 8), .int (iI (mn : Int)), .ref (md 9), .ref (md 10), .ref (md 11), .int (iI (pm : Int)), .long (lI (μ 0 0)), .long (lI (μ 0 1)), .long (lI (μ 0 2)), .long (lI (μ 0 3))]), ((md 1), ia E 56 (mI 1 4 σ)), ((md 2), ia E 32 (va_up (mI 5 2 σ) (2 * (4 * u + v).toNat) x)), ((md 3), ia E 24 (mI 7 3 σ)), ((md 4), ia E 24 (mI 10 3 σ))]) C (2 * (4 * u + v).toNat) dX12_pair_48 rfl 2 rfl (by omega) (by omega) (by omega) rfl ?_
        refine x_aload_n (pc' := 50) C 0 dX12_pair_49 rfl rfl ?_
        refine x_get (pc' := 53) C dX12_pair_50 rfl ff_X12_17_11 0 rfl rfl ?_
        refine x_iconst (pc' := 54) C dX12_pair_53 rfl ?_
        refine x_iconst (pc' := 55) C dX12_pair_54 rfl ?_
        refine x_iload_n (pc' := 56) C 1 dX12_pair_55 rfl rfl ?_
        refine x_imul (pc' := 57) C dX12_pair_56 rfl ?_
        refine x_iload_n (pc' := 58) C 2 dX12_pair_57 rfl rfl ?_
        refine x_iadd (pc' := 59) C dX12_pair_58 rfl ?_
        refine x_imul (pc' := 60) C dX12_pair_59 rfl ?_
        refine x_iconst (pc' := 61) C dX12_pair_60 rfl ?_
        refine x_iadd (pc' := 62) C dX12_pair_61 rfl ?_
        refine x_iload (pc' := 64) C 4 dX12_pair_62 rfl rfl ?_
        refine x_iast (pc' := 65) (ws' := [((md 0), ob 11 [.int (iI (σ 0 0)), .int (iI (k : Int)), .ref (md 1), .int (iI (nl : Int)), .ref (md 2), .ref (md 3), .int (iI (nt : Int)), .int (iI (σ 0 4)), .ref (md 4), .int (iI (nb : Int)), .long (lI (σ 0 6)), .long (lI (σ 0 7)), .ref (md 5), .ref (md 6), .ref (md 7), .ref (md 8), .int (iI (mn : Int)), .ref (md 9), .ref (md 10), .ref (md 11), .int (iI (pm : Int)), .long (lI (μ 0 0)), .long (lI (μ 0 1)), .long (lI (μ 0 2)), .long (lI (μ 0 3))]), ((md 1), ia E 56 (mI 1 4 σ)), ((md 2), ia E 32 (va_up (va_up (mI 5 2 σ) (2 * (4 * u + v).toNat) x) (2 * (4 * u + v).toNat + 1) y)), ((md 3), ia E 24 (mI 7 3 σ)), ((md 4), ia E 24 (mI 10 3 σ))]) C (2 * (4 * u + v).toNat + 1) dX12_pair_64 rfl 2 rfl (by omega) (by omega) (by omega) rfl ?_
        refine x_iconst (pc' := 66) C dX12_pair_65 rfl ?_
        refine x_ws (ws' := [((md 0), ob 11 [.int (iI ((ap (ap σ 5 (4 * u + v).toNat x) 6 (4 * u + v).toNat y) 0 0)), .int (iI (k : Int)), .ref (md 1), .int (iI (nl : Int)), .ref (md 2), .ref (md 3), .int (iI (nt : Int)), .int (iI ((ap (ap σ 5 (4 * u + v).toNat x) 6 (4 * u + v).toNat y) 0 4)), .ref (md 4), .int (iI (nb : Int)), .long (lI ((ap (ap σ 5 (4 * u + v).toNat x) 6 (4 * u + v).toNat y) 0 6)), .long (lI ((ap (ap σ 5 (4 * u + v).toNat x) 6 (4 * u + v).toNat y) 0 7)), .ref (md 5), .ref (md 6), .ref (md 7), .ref (md 8), .int (iI (mn : Int)), .ref (md 9), .ref (md 10), .ref (md 11), .int (iI (pm : Int)), .long (lI (μ 0 0)), .long (lI (μ 0 1)), .long (lI (μ 0 2)), .long (lI (μ 0 3))]), ((md 1), ia E 56 (mI 1 4 (ap (ap σ 5 (4 * u + v).toNat x) 6 (4 * u + v).toNat y))), ((md 2), ia E 32 (mI 5 2 (ap (ap σ 5 (4 * u + v).toNat x) 6 (4 * u + v).toNat y))), ((md 3), ia E 24 (mI 7 3 (ap (ap σ 5 (4 * u + v).toNat x) 6 (4 * u + v).toNat y))), ((md 4), ia E 24 (mI 10 3 (ap (ap σ 5 (4 * u + v).toNat x) 6 (4 * u + v).toNat y)))]) (by simp only [mI_apO (r := 1) (w := 4) (q := 5) (by decide) (by decide), mI_apO (r := 1) (w := 4) (q := 6) (by decide) (by decide), mI_ap0 (r := 5) (w := 2) (by decide), mI_ap (r := 5) (w := 2) (d := 1) (by decide), mI_apO (r := 7) (w := 3) (q := 5) (by decide) (by decide), mI_apO (r := 7) (w := 3) (q := 6) (by decide) (by decide), mI_apO (r := 10) (w := 3) (q := 5) (by decide) (by decide), mI_apO (r := 10) (w := 3) (q := 6) (by decide) (by decide)] <;> rfl) ?_
        exact x_iret C hr dX12_pair_66 ⟨1, (ap (ap σ 5 (4 * u + v).toNat x) 6 (4 * u + v).toNat y), rfl, rfl, (show (1, (ap (ap σ 5 (4 * u + v).toNat x) 6 (4 * u + v).toNat y)) = sp_pair σ u v x y from by unfold sp_pair; first | rw [if_neg (by omega)] | rw [if_pos (by omega), if_pos (by omega)] | rw [if_pos (by omega), if_neg (by omega)] | rw [if_pos (by omega)])⟩
      ·
        replace c30 := bI_z c30
        refine x_bipush (pc' := 35) C dX12_pair_33 rfl rfl ?_
        exact x_iret C hr dX12_pair_35 ⟨(-2), σ, rfl, rfl, (show ((-2), σ) = sp_pair σ u v x y from by unfold sp_pair; first | rw [if_neg (by omega)] | rw [if_pos (by omega), if_pos (by omega)] | rw [if_pos (by omega), if_neg (by omega)] | rw [if_pos (by omega)])⟩

set_option maxHeartbeats 4000000 in
set_option maxRecDepth 100000 in
theorem c_X12_thing (l : Launch) (E : EV) (md : Nat → Nat) (k : Nat) (nl : Nat) (nt : Nat) (nb : Nat) (σ : AS) (mn : Nat) (pm : Nat) (μ : AS) (u : Int) (x : Int) (y : Int) (r_u : -2147483648 ≤ u ∧ u < 2147483648) (r_x : -2147483648 ≤ x ∧ x < 2147483648) (r_y : -2147483648 ≤ y ∧ y < 2147483648) (hk : k < 5) (hnl : nl ≤ 14) (hnt : nt ≤ 8) (hnb : nb ≤ 8) : MC l E yX12_thing cX12_thing 4 (some .int) ({ frames := 2, cells := 0, slots := 0, locals := 46 }) [.ref (md 0), .int (iI u), .int (iI x), .int (iI y)] [((md 0), ob 11 [.int (iI (σ 0 0)), .int (iI (k : Int)), .ref (md 1), .int (iI (nl : Int)), .ref (md 2), .ref (md 3), .int (iI (nt : Int)), .int (iI (σ 0 4)), .ref (md 4), .int (iI (nb : Int)), .long (lI (σ 0 6)), .long (lI (σ 0 7)), .ref (md 5), .ref (md 6), .ref (md 7), .ref (md 8), .int (iI (mn : Int)), .ref (md 9), .ref (md 10), .ref (md 11), .int (iI (pm : Int)), .long (lI (μ 0 0)), .long (lI (μ 0 1)), .long (lI (μ 0 2)), .long (lI (μ 0 3))]), ((md 1), ia E 56 (mI 1 4 σ)), ((md 2), ia E 32 (mI 5 2 σ)), ((md 3), ia E 24 (mI 7 3 σ)), ((md 4), ia E 24 (mI 10 3 σ))] (fun v_ w_ => ∃ (r : Int) (nt2 : Nat) (σ2 : AS), v_ = some (.int (iI r)) ∧ w_ = [((md 0), ob 11 [.int (iI (σ2 0 0)), .int (iI (k : Int)), .ref (md 1), .int (iI (nl : Int)), .ref (md 2), .ref (md 3), .int (iI (nt2 : Int)), .int (iI (σ2 0 4)), .ref (md 4), .int (iI (nb : Int)), .long (lI (σ2 0 6)), .long (lI (σ2 0 7)), .ref (md 5), .ref (md 6), .ref (md 7), .ref (md 8), .int (iI (mn : Int)), .ref (md 9), .ref (md 10), .ref (md 11), .int (iI (pm : Int)), .long (lI (μ 0 0)), .long (lI (μ 0 1)), .long (lI (μ 0 2)), .long (lI (μ 0 3))]), ((md 1), ia E 56 (mI 1 4 σ2)), ((md 2), ia E 32 (mI 5 2 σ2)), ((md 3), ia E 24 (mI 7 3 σ2)), ((md 4), ia E 24 (mI 10 3 σ2))] ∧ ((r, nt2, σ2) = sp_thing nt σ u x y)) := by
  refine MC.of (by decide +kernel) (Nat.le_of_ble_eq_true rfl) ?_
  intro p_ e_ s_ m_ args_ below_ meth_ c_ A_ C hr hnm
  have C : Cx p_ s_ m_ args_ meth_ c_ E A_ 4 cX12_thing RX12 := C
  show Wx _ _ _ _ _ _ _ _ _ _ _ _ _ _ _ _ 0 [(0, .ref (md 0)), (1, .int (iI u)), (2, .int (iI x)), (3, .int (iI y))] [] [((md 0), ob 11 [.int (iI (σ 0 0)), .int (iI (k : Int)), .ref (md 1), .int (iI (nl : Int)), .ref (md 2), .ref (md 3), .int (iI (nt : Int)), .int (iI (σ 0 4)), .ref (md 4), .int (iI (nb : Int)), .long (lI (σ 0 6)), .long (lI (σ 0 7)), .ref (md 5), .ref (md 6), .ref (md 7), .ref (md 8), .int (iI (mn : Int)), .ref (md 9), .ref (md 10), .ref (md 11), .int (iI (pm : Int)), .long (lI (μ 0 0)), .long (lI (μ 0 1)), .long (lI (μ 0 2)), .long (lI (μ 0 3))]), ((md 1), ia E 56 (mI 1 4 σ)), ((md 2), ia E 32 (mI 5 2 σ)), ((md 3), ia E 24 (mI 7 3 σ)), ((md 4), ia E 24 (mI 10 3 σ))]
  refine x_iload_n (pc' := 1) C 1 dX12_thing_0 rfl rfl ?_
  refine x_i2l (pc' := 2) C dX12_thing_1 rfl (by omega) ?_
  refine x_lconst (pc' := 3) (z := 1) C dX12_thing_2 rfl rfl ?_
  refine x_ldc2 (pc' := 6) (z := 50) C dX12_thing_3 rfl kc_X12_79 rfl ?_
  refine x_callS (pc' := 9) (As := [.long (lI u), .long (lI 1), .long (lI 50)]) (rest := []) C cs_X12_59 dX12_thing_6 rfl (c_X12_in l E u 1 50 (show -9223372036854775808 ≤ u ∧ u < 9223372036854775808 from by omega) (show -9223372036854775808 ≤ 1 ∧ 1 < 9223372036854775808 from by omega) (show -9223372036854775808 ≤ 50 ∧ 50 < 9223372036854775808 from by omega)) mm_X12_in (hstk := rfl) (hlen := rfl) (hcat := Nat.le_of_ble_eq_true rfl) (isC := []) (isR := [0, 1, 2, 3, 4]) (wr := [((md 0), ob 11 [.int (iI (σ 0 0)), .int (iI (k : Int)), .ref (md 1), .int (iI (nl : Int)), .ref (md 2), .ref (md 3), .int (iI (nt : Int)), .int (iI (σ 0 4)), .ref (md 4), .int (iI (nb : Int)), .long (lI (σ 0 6)), .long (lI (σ 0 7)), .ref (md 5), .ref (md 6), .ref (md 7), .ref (md 8), .int (iI (mn : Int)), .ref (md 9), .ref (md 10), .ref (md 11), .int (iI (pm : Int)), .long (lI (μ 0 0)), .long (lI (μ 0 1)), .long (lI (μ 0 2)), .long (lI (μ 0 3))]), ((md 1), ia E 56 (mI 1 4 σ)), ((md 2), ia E 32 (mI 5 2 σ)), ((md 3), ia E 24 (mI 7 3 σ)), ((md 4), ia E 24 (mI 10 3 σ))]) (hC := rfl) (hR := rfl) (hnC := rfl) (hn := rfl) (hdis := by decide) (hR1 := ⟨Nat.le_of_ble_eq_true rfl, Nat.le_of_ble_eq_true rfl⟩) (hcs := ⟨Nat.le_of_ble_eq_true rfl, Nat.le_of_ble_eq_true rfl⟩) (fun v_ w_ hp_ => ?_)
  obtain ⟨rfl, rfl⟩ := hp_
  show Wx _ _ _ _ _ _ _ _ _ _ _ _ _ _ _ _ 9 [(0, .ref (md 0)), (1, .int (iI u)), (2, .int (iI x)), (3, .int (iI y))] [.int (iI (bI (1 ≤ u ∧ u ≤ 50)))] [((md 0), ob 11 [.int (iI (σ 0 0)), .int (iI (k : Int)), .ref (md 1), .int (iI (nl : Int)), .ref (md 2), .ref (md 3), .int (iI (nt : Int)), .int (iI (σ 0 4)), .ref (md 4), .int (iI (nb : Int)), .long (lI (σ 0 6)), .long (lI (σ 0 7)), .ref (md 5), .ref (md 6), .ref (md 7), .ref (md 8), .int (iI (mn : Int)), .ref (md 9), .ref (md 10), .ref (md 11), .int (iI (pm : Int)), .long (lI (μ 0 0)), .long (lI (μ 0 1)), .long (lI (μ 0 2)), .long (lI (μ 0 3))]), ((md 1), ia E 56 (mI 1 4 σ)), ((md 2), ia E 32 (mI 5 2 σ)), ((md 3), ia E 24 (mI 7 3 σ)), ((md 4), ia E 24 (mI 10 3 σ))]
  refine x_if_eq (pc' := 12) (tgt := 20) C dX12_thing_9 rfl (by decide) (bI_rng) (fun c9 => ?_) (fun c9 => ?_)
  ·
    replace c9 := bI_z c9
    refine x_bipush (pc' := 22) C dX12_thing_20 rfl rfl ?_
    exact x_iret C hr dX12_thing_22 ⟨(-2), nt, σ, rfl, rfl, (show ((-2), nt, σ) = sp_thing nt σ u x y from by unfold sp_thing; first | rw [if_neg (by omega)] | rw [if_pos (by omega), if_pos (by omega)] | rw [if_pos (by omega), if_neg (by omega)] | rw [if_pos (by omega)])⟩
  ·
    replace c9 := bI_nz c9
    refine x_iload_n (pc' := 13) C 2 dX12_thing_12 rfl rfl ?_
    refine x_iload_n (pc' := 14) C 3 dX12_thing_13 rfl rfl ?_
    refine x_callS (pc' := 17) (As := [.int (iI x), .int (iI y)]) (rest := []) C cs_X12_70 dX12_thing_14 rfl (c_X12_isLine l E x y (show -2147483648 ≤ x ∧ x < 2147483648 from by omega) (show -2147483648 ≤ y ∧ y < 2147483648 from by omega)) mm_X12_isLine (hstk := rfl) (hlen := rfl) (hcat := Nat.le_of_ble_eq_true rfl) (isC := []) (isR := [0, 1, 2, 3, 4]) (wr := [((md 0), ob 11 [.int (iI (σ 0 0)), .int (iI (k : Int)), .ref (md 1), .int (iI (nl : Int)), .ref (md 2), .ref (md 3), .int (iI (nt : Int)), .int (iI (σ 0 4)), .ref (md 4), .int (iI (nb : Int)), .long (lI (σ 0 6)), .long (lI (σ 0 7)), .ref (md 5), .ref (md 6), .ref (md 7), .ref (md 8), .int (iI (mn : Int)), .ref (md 9), .ref (md 10), .ref (md 11), .int (iI (pm : Int)), .long (lI (μ 0 0)), .long (lI (μ 0 1)), .long (lI (μ 0 2)), .long (lI (μ 0 3))]), ((md 1), ia E 56 (mI 1 4 σ)), ((md 2), ia E 32 (mI 5 2 σ)), ((md 3), ia E 24 (mI 7 3 σ)), ((md 4), ia E 24 (mI 10 3 σ))]) (hC := rfl) (hR := rfl) (hnC := rfl) (hn := rfl) (hdis := by decide) (hR1 := ⟨Nat.le_of_ble_eq_true rfl, Nat.le_of_ble_eq_true rfl⟩) (hcs := ⟨Nat.le_of_ble_eq_true rfl, Nat.le_of_ble_eq_true rfl⟩) (fun v_ w_ hp_ => ?_)
    obtain ⟨rfl, rfl⟩ := hp_
    show Wx _ _ _ _ _ _ _ _ _ _ _ _ _ _ _ _ 17 [(0, .ref (md 0)), (1, .int (iI u)), (2, .int (iI x)), (3, .int (iI y))] [.int (iI (bI ((-100 ≤ x ∧ x ≤ 100) ∧ (-100 ≤ y ∧ y ≤ 100))))] [((md 0), ob 11 [.int (iI (σ 0 0)), .int (iI (k : Int)), .ref (md 1), .int (iI (nl : Int)), .ref (md 2), .ref (md 3), .int (iI (nt : Int)), .int (iI (σ 0 4)), .ref (md 4), .int (iI (nb : Int)), .long (lI (σ 0 6)), .long (lI (σ 0 7)), .ref (md 5), .ref (md 6), .ref (md 7), .ref (md 8), .int (iI (mn : Int)), .ref (md 9), .ref (md 10), .ref (md 11), .int (iI (pm : Int)), .long (lI (μ 0 0)), .long (lI (μ 0 1)), .long (lI (μ 0 2)), .long (lI (μ 0 3))]), ((md 1), ia E 56 (mI 1 4 σ)), ((md 2), ia E 32 (mI 5 2 σ)), ((md 3), ia E 24 (mI 7 3 σ)), ((md 4), ia E 24 (mI 10 3 σ))]
    refine x_if_ne (pc' := 20) (tgt := 23) C dX12_thing_17 rfl (by decide) (bI_rng) (fun c17 => ?_) (fun c17 => ?_)
    ·
      replace c17 := bI_nz c17
      refine x_aload_n (pc' := 24) C 0 dX12_thing_23 rfl rfl ?_
      refine x_get (pc' := 27) C dX12_thing_24 rfl ff_X12_81_11 0 rfl rfl ?_
      refine x_bipush (pc' := 29) C dX12_thing_27 rfl rfl ?_
      refine x_icmp_ne (pc' := 32) (tgt := 35) C dX12_thing_29 rfl (by decide) (by omega) (by omega) (fun c29 => ?_) (fun c29 => ?_)
      ·
        refine x_aload_n (pc' := 36) C 0 dX12_thing_35 rfl rfl ?_
        refine x_get (pc' := 39) C dX12_thing_36 rfl ff_X12_20_11 0 rfl rfl ?_
        refine x_iconst (pc' := 40) C dX12_thing_39 rfl ?_
        refine x_aload_n (pc' := 41) C 0 dX12_thing_40 rfl rfl ?_
        refine x_get (pc' := 44) C dX12_thing_41 rfl ff_X12_81_11 0 rfl rfl ?_
        refine x_imul (pc' := 45) C dX12_thing_44 rfl ?_
        refine x_iload_n (pc' := 46) C 1 dX12_thing_45 rfl rfl ?_
        refine x_iast (pc' := 47) (ws' := [((md 0), ob 11 [.int (iI (σ 0 0)), .int (iI (k : Int)), .ref (md 1), .int (iI (nl : Int)), .ref (md 2), .ref (md 3), .int (iI (nt : Int)), .int (iI (σ 0 4)), .ref (md 4), .int (iI (nb : Int)), .long (lI (σ 0 6)), .long (lI (σ 0 7)), .ref (md 5), .ref (md 6), .ref (md 7), .ref (md 8), .int (iI (mn : Int)), .ref (md 9), .ref (md 10), .ref (md 11), .int (iI (pm : Int)), .long (lI (μ 0 0)), .long (lI (μ 0 1)), .long (lI (μ 0 2)), .long (lI (μ 0 3))]), ((md 1), ia E 56 (mI 1 4 σ)), ((md 2), ia E 32 (mI 5 2 σ)), ((md 3), ia E 24 (va_up (mI 7 3 σ) (3 * nt) u)), ((md 4), ia E 24 (mI 10 3 σ))]) C (3 * nt) dX12_thing_46 rfl 3 rfl (by omega) (by omega) (by omega) rfl ?_
        refine x_aload_n (pc' := 48) C 0 dX12_thing_47 rfl rfl ?_
        refine x_get (pc' := 51) C dX12_thing_48 rfl ff_X12_20_11 0 rfl rfl ?_
        refine x_iconst (pc' := 52) C dX12_thing_51 rfl ?_
        refine x_aload_n (pc' := 53) C 0 dX12_thing_52 rfl rfl ?_
        refine x_get (pc' := 56) C dX12_thing_53 rfl ff_X12_81_11 0 rfl rfl ?_
        refine x_imul (pc' := 57) C dX12_thing_56 rfl ?_
        refine x_iconst (pc' := 58) C dX12_thing_57 rfl ?_
        refine x_iadd (pc' := 59) C dX12_thing_58 rfl ?_
        refine x_iload_n (pc' := 60) C 2 dX12_thing_59 rfl rfl ?_
        refine x_iast (pc' := 61) (ws' := [((md 0), ob 11 [.int (iI (σ 0 0)), .int (iI (k : Int)), .ref (md 1), .int (iI (nl : Int)), .ref (md 2), .ref (md 3), .int (iI (nt : Int)), .int (iI (σ 0 4)), .ref (md 4), .int (iI (nb : Int)), .long (lI (σ 0 6)), .long (lI (σ 0 7)), .ref (md 5), .ref (md 6), .ref (md 7), .ref (md 8), .int (iI (mn : Int)), .ref (md 9), .ref (md 10), .ref (md 11), .int (iI (pm : Int)), .long (lI (μ 0 0)), .long (lI (μ 0 1)), .long (lI (μ 0 2)), .long (lI (μ 0 3))]), ((md 1), ia E 56 (mI 1 4 σ)), ((md 2), ia E 32 (mI 5 2 σ)), ((md 3), ia E 24 (va_up (va_up (mI 7 3 σ) (3 * nt) u) ((3 * nt) + 1) x)), ((md 4), ia E 24 (mI 10 3 σ))]) C ((3 * nt) + 1) dX12_thing_60 rfl 3 rfl (by omega) (by omega) (by omega) rfl ?_
        refine x_aload_n (pc' := 62) C 0 dX12_thing_61 rfl rfl ?_
        refine x_get (pc' := 65) C dX12_thing_62 rfl ff_X12_20_11 0 rfl rfl ?_
        refine x_iconst (pc' := 66) C dX12_thing_65 rfl ?_
        refine x_aload_n (pc' := 67) C 0 dX12_thing_66 rfl rfl ?_
        refine x_get (pc' := 70) C dX12_thing_67 rfl ff_X12_81_11 0 rfl rfl ?_
        refine x_imul (pc' := 71) C dX12_thing_70 rfl ?_
        refine x_iconst (pc' := 72) C dX12_thing_71 rfl ?_
        refine x_iadd (pc' := 73) C dX12_thing_72 rfl ?_
        refine x_iload_n (pc' := 74) C 3 dX12_thing_73 rfl rfl ?_
        refine x_iast (pc' := 75) (ws' := [((md 0), ob 11 [.int (iI (σ 0 0)), .int (iI (k : Int)), .ref (md 1), .int (iI (nl : Int)), .ref (md 2), .ref (md 3), .int (iI (nt : Int)), .int (iI (σ 0 4)), .ref (md 4), .int (iI (nb : Int)), .long (lI (σ 0 6)), .long (lI (σ 0 7)), .ref (md 5), .ref (md 6), .ref (md 7), .ref (md 8), .int (iI (mn : Int)), .ref (md 9), .ref (md 10), .ref (md 11), .int (iI (pm : Int)), .long (lI (μ 0 0)), .long (lI (μ 0 1)), .long (lI (μ 0 2)), .long (lI (μ 0 3))]), ((md 1), ia E 56 (mI 1 4 σ)), ((md 2), ia E 32 (mI 5 2 σ)), ((md 3), ia E 24 (va_up (va_up (va_up (mI 7 3 σ) (3 * nt) u) ((3 * nt) + 1) x) ((3 * nt) + 2) y)), ((md 4), ia E 24 (mI 10 3 σ))]) C ((3 * nt) + 2) dX12_thing_74 rfl 3 rfl (by omega) (by omega) (by omega) rfl ?_
        refine x_aload_n (pc' := 76) C 0 dX12_thing_75 rfl rfl ?_
        refine x_dup (pc' := 77) C dX12_thing_76 rfl rfl ?_
        refine x_get (pc' := 80) C dX12_thing_77 rfl ff_X12_81_11 0 rfl rfl ?_
        refine x_iconst (pc' := 81) C dX12_thing_80 rfl ?_
        refine x_iadd (pc' := 82) C dX12_thing_81 rfl ?_
        refine x_top (b := .int (iI ((nt + 1 : Nat) : Int))) (rfl) ?_
        refine x_put (pc' := 85) (ws' := [((md 0), ob 11 [.int (iI (σ 0 0)), .int (iI (k : Int)), .ref (md 1), .int (iI (nl : Int)), .ref (md 2), .ref (md 3), .int (iI ((nt + 1 : Nat) : Int)), .int (iI (σ 0 4)), .ref (md 4), .int (iI (nb : Int)), .long (lI (σ 0 6)), .long (lI (σ 0 7)), .ref (md 5), .ref (md 6), .ref (md 7), .ref (md 8), .int (iI (mn : Int)), .ref (md 9), .ref (md 10), .ref (md 11), .int (iI (pm : Int)), .long (lI (μ 0 0)), .long (lI (μ 0 1)), .long (lI (μ 0 2)), .long (lI (μ 0 3))]), ((md 1), ia E 56 (mI 1 4 σ)), ((md 2), ia E 32 (mI 5 2 σ)), ((md 3), ia E 24 (va_up (va_up (va_up (mI 7 3 σ) (3 * nt) u) ((3 * nt) + 1) x) ((3 * nt) + 2) y)), ((md 4), ia E 24 (mI 10 3 σ))]) C dX12_thing_82 rfl pf_X12_81_11 0 rfl rfl rfl (Nat.le_of_ble_eq_true rfl) rfl ?_
        refine x_aload_n (pc' := 86) C 0 dX12_thing_85 rfl rfl ?_
        refine x_get (pc' := 89) C dX12_thing_86 rfl ff_X12_81_11 0 rfl rfl ?_
        refine x_iconst (pc' := 90) C dX12_thing_89 rfl ?_
        refine x_isub (pc' := 91) C dX12_thing_90 rfl ?_
        refine x_top (b := .int (iI (nt : Int))) (by congr 2; omega) ?_
        refine x_ws (ws' := [((md 0), ob 11 [.int (iI ((ap (ap (ap σ 7 nt u) 8 nt x) 9 nt y) 0 0)), .int (iI (k : Int)), .ref (md 1), .int (iI (nl : Int)), .ref (md 2), .ref (md 3), .int (iI ((nt + 1 : Nat) : Int)), .int (iI ((ap (ap (ap σ 7 nt u) 8 nt x) 9 nt y) 0 4)), .ref (md 4), .int (iI (nb : Int)), .long (lI ((ap (ap (ap σ 7 nt u) 8 nt x) 9 nt y) 0 6)), .long (lI ((ap (ap (ap σ 7 nt u) 8 nt x) 9 nt y) 0 7)), .ref (md 5), .ref (md 6), .ref (md 7), .ref (md 8), .int (iI (mn : Int)), .ref (md 9), .ref (md 10), .ref (md 11), .int (iI (pm : Int)), .long (lI (μ 0 0)), .long (lI (μ 0 1)), .long (lI (μ 0 2)), .long (lI (μ 0 3))]), ((md 1), ia E 56 (mI 1 4 (ap (ap (ap σ 7 nt u) 8 nt x) 9 nt y))), ((md 2), ia E 32 (mI 5 2 (ap (ap (ap σ 7 nt u) 8 nt x) 9 nt y))), ((md 3), ia E 24 (mI 7 3 (ap (ap (ap σ 7 nt u) 8 nt x) 9 nt y))), ((md 4), ia E 24 (mI 10 3 (ap (ap (ap σ 7 nt u) 8 nt x) 9 nt y)))]) (by simp only [mI_apO (r := 1) (w := 4) (q := 7) (by decide) (by decide), mI_apO (r := 1) (w := 4) (q := 8) (by decide) (by decide), mI_apO (r := 1) (w := 4) (q := 9) (by decide) (by decide), mI_apO (r := 5) (w := 2) (q := 7) (by decide) (by decide), mI_apO (r := 5) (w := 2) (q := 8) (by decide) (by decide), mI_apO (r := 5) (w := 2) (q := 9) (by decide) (by decide), mI_ap0 (r := 7) (w := 3) (by decide), mI_ap (r := 7) (w := 3) (d := 1) (by decide), mI_ap (r := 7) (w := 3) (d := 2) (by decide), mI_apO (r := 10) (w := 3) (q := 7) (by decide) (by decide), mI_apO (r := 10) (w := 3) (q := 8) (by decide) (by decide), mI_apO (r := 10) (w := 3) (q := 9) (by decide) (by decide)] <;> rfl) ?_
        exact x_iret C hr dX12_thing_91 ⟨(nt : Int), (nt + 1), (ap (ap (ap σ 7 nt u) 8 nt x) 9 nt y), rfl, rfl, (show ((nt : Int), (nt + 1), (ap (ap (ap σ 7 nt u) 8 nt x) 9 nt y)) = sp_thing nt σ u x y from by unfold sp_thing; first | rw [if_neg (by omega)] | rw [if_pos (by omega), if_pos (by omega)] | rw [if_pos (by omega), if_neg (by omega)] | rw [if_pos (by omega)])⟩
      ·
        refine x_bipush (pc' := 34) C dX12_thing_32 rfl rfl ?_
        exact x_iret C hr dX12_thing_34 ⟨(-4), nt, σ, rfl, rfl, (show ((-4), nt, σ) = sp_thing nt σ u x y from by unfold sp_thing; first | rw [if_neg (by omega)] | rw [if_pos (by omega), if_pos (by omega)] | rw [if_pos (by omega), if_neg (by omega)] | rw [if_pos (by omega)])⟩
    ·
      replace c17 := bI_z c17
      refine x_bipush (pc' := 22) C dX12_thing_20 rfl rfl ?_
      exact x_iret C hr dX12_thing_22 ⟨(-2), nt, σ, rfl, rfl, (show ((-2), nt, σ) = sp_thing nt σ u x y from by unfold sp_thing; first | rw [if_neg (by omega)] | rw [if_pos (by omega), if_pos (by omega)] | rw [if_pos (by omega), if_neg (by omega)] | rw [if_pos (by omega)])⟩

set_option maxHeartbeats 4000000 in
set_option maxRecDepth 100000 in
theorem c_X12_room (l : Launch) (E : EV) (md : Nat → Nat) (k : Nat) (nl : Nat) (nt : Nat) (nb : Nat) (σ : AS) (mn : Nat) (pm : Nat) (μ : AS) (t : Int) (r_t : -2147483648 ≤ t ∧ t < 2147483648) (hk : k < 5) (hnl : nl ≤ 14) (hnt : nt ≤ 8) (hnb : nb ≤ 8) : MC l E yX12_room cX12_room 3 (some .int) ({ frames := 1, cells := 0, slots := 0, locals := 25 }) [.ref (md 0), .int (iI t)] [((md 0), ob 11 [.int (iI (σ 0 0)), .int (iI (k : Int)), .ref (md 1), .int (iI (nl : Int)), .ref (md 2), .ref (md 3), .int (iI (nt : Int)), .int (iI (σ 0 4)), .ref (md 4), .int (iI (nb : Int)), .long (lI (σ 0 6)), .long (lI (σ 0 7)), .ref (md 5), .ref (md 6), .ref (md 7), .ref (md 8), .int (iI (mn : Int)), .ref (md 9), .ref (md 10), .ref (md 11), .int (iI (pm : Int)), .long (lI (μ 0 0)), .long (lI (μ 0 1)), .long (lI (μ 0 2)), .long (lI (μ 0 3))]), ((md 1), ia E 56 (mI 1 4 σ)), ((md 2), ia E 32 (mI 5 2 σ)), ((md 3), ia E 24 (mI 7 3 σ)), ((md 4), ia E 24 (mI 10 3 σ))] (fun v_ w_ => ∃ (r : Int) (σ2 : AS), v_ = some (.int (iI r)) ∧ w_ = [((md 0), ob 11 [.int (iI (σ2 0 0)), .int (iI (k : Int)), .ref (md 1), .int (iI (nl : Int)), .ref (md 2), .ref (md 3), .int (iI (nt : Int)), .int (iI (σ2 0 4)), .ref (md 4), .int (iI (nb : Int)), .long (lI (σ2 0 6)), .long (lI (σ2 0 7)), .ref (md 5), .ref (md 6), .ref (md 7), .ref (md 8), .int (iI (mn : Int)), .ref (md 9), .ref (md 10), .ref (md 11), .int (iI (pm : Int)), .long (lI (μ 0 0)), .long (lI (μ 0 1)), .long (lI (μ 0 2)), .long (lI (μ 0 3))]), ((md 1), ia E 56 (mI 1 4 σ2)), ((md 2), ia E 32 (mI 5 2 σ2)), ((md 3), ia E 24 (mI 7 3 σ2)), ((md 4), ia E 24 (mI 10 3 σ2))] ∧ ((r, σ2) = sp_room σ t)) := by
  refine MC.of (by decide +kernel) (Nat.le_of_ble_eq_true rfl) ?_
  intro p_ e_ s_ m_ args_ below_ meth_ c_ A_ C hr hnm
  have C : Cx p_ s_ m_ args_ meth_ c_ E A_ 3 cX12_room RX12 := C
  show Wx _ _ _ _ _ _ _ _ _ _ _ _ _ _ _ _ 0 [(0, .ref (md 0)), (1, .int (iI t))] [] [((md 0), ob 11 [.int (iI (σ 0 0)), .int (iI (k : Int)), .ref (md 1), .int (iI (nl : Int)), .ref (md 2), .ref (md 3), .int (iI (nt : Int)), .int (iI (σ 0 4)), .ref (md 4), .int (iI (nb : Int)), .long (lI (σ 0 6)), .long (lI (σ 0 7)), .ref (md 5), .ref (md 6), .ref (md 7), .ref (md 8), .int (iI (mn : Int)), .ref (md 9), .ref (md 10), .ref (md 11), .int (iI (pm : Int)), .long (lI (μ 0 0)), .long (lI (μ 0 1)), .long (lI (μ 0 2)), .long (lI (μ 0 3))]), ((md 1), ia E 56 (mI 1 4 σ)), ((md 2), ia E 32 (mI 5 2 σ)), ((md 3), ia E 24 (mI 7 3 σ)), ((md 4), ia E 24 (mI 10 3 σ))]
  refine x_iload_n (pc' := 1) C 1 dX12_room_0 rfl rfl ?_
  refine x_i2l (pc' := 2) C dX12_room_1 rfl (by omega) ?_
  refine x_lconst (pc' := 3) (z := 0) C dX12_room_2 rfl rfl ?_
  refine x_ldc2 (pc' := 6) (z := 200) C dX12_room_3 rfl kc_X12_84 rfl ?_
  refine x_callS (pc' := 9) (As := [.long (lI t), .long (lI 0), .long (lI 200)]) (rest := []) C cs_X12_59 dX12_room_6 rfl (c_X12_in l E t 0 200 (show -9223372036854775808 ≤ t ∧ t < 9223372036854775808 from by omega) (show -9223372036854775808 ≤ 0 ∧ 0 < 9223372036854775808 from by omega) (show -9223372036854775808 ≤ 200 ∧ 200 < 9223372036854775808 from by omega)) mm_X12_in (hstk := rfl) (hlen := rfl) (hcat := Nat.le_of_ble_eq_true rfl) (isC := []) (isR := [0, 1, 2, 3, 4]) (wr := [((md 0), ob 11 [.int (iI (σ 0 0)), .int (iI (k : Int)), .ref (md 1), .int (iI (nl : Int)), .ref (md 2), .ref (md 3), .int (iI (nt : Int)), .int (iI (σ 0 4)), .ref (md 4), .int (iI (nb : Int)), .long (lI (σ 0 6)), .long (lI (σ 0 7)), .ref (md 5), .ref (md 6), .ref (md 7), .ref (md 8), .int (iI (mn : Int)), .ref (md 9), .ref (md 10), .ref (md 11), .int (iI (pm : Int)), .long (lI (μ 0 0)), .long (lI (μ 0 1)), .long (lI (μ 0 2)), .long (lI (μ 0 3))]), ((md 1), ia E 56 (mI 1 4 σ)), ((md 2), ia E 32 (mI 5 2 σ)), ((md 3), ia E 24 (mI 7 3 σ)), ((md 4), ia E 24 (mI 10 3 σ))]) (hC := rfl) (hR := rfl) (hnC := rfl) (hn := rfl) (hdis := by decide) (hR1 := ⟨Nat.le_of_ble_eq_true rfl, Nat.le_of_ble_eq_true rfl⟩) (hcs := ⟨Nat.le_of_ble_eq_true rfl, Nat.le_of_ble_eq_true rfl⟩) (fun v_ w_ hp_ => ?_)
  obtain ⟨rfl, rfl⟩ := hp_
  show Wx _ _ _ _ _ _ _ _ _ _ _ _ _ _ _ _ 9 [(0, .ref (md 0)), (1, .int (iI t))] [.int (iI (bI (0 ≤ t ∧ t ≤ 200)))] [((md 0), ob 11 [.int (iI (σ 0 0)), .int (iI (k : Int)), .ref (md 1), .int (iI (nl : Int)), .ref (md 2), .ref (md 3), .int (iI (nt : Int)), .int (iI (σ 0 4)), .ref (md 4), .int (iI (nb : Int)), .long (lI (σ 0 6)), .long (lI (σ 0 7)), .ref (md 5), .ref (md 6), .ref (md 7), .ref (md 8), .int (iI (mn : Int)), .ref (md 9), .ref (md 10), .ref (md 11), .int (iI (pm : Int)), .long (lI (μ 0 0)), .long (lI (μ 0 1)), .long (lI (μ 0 2)), .long (lI (μ 0 3))]), ((md 1), ia E 56 (mI 1 4 σ)), ((md 2), ia E 32 (mI 5 2 σ)), ((md 3), ia E 24 (mI 7 3 σ)), ((md 4), ia E 24 (mI 10 3 σ))]
  refine x_if_ne (pc' := 12) (tgt := 15) C dX12_room_9 rfl (by decide) (bI_rng) (fun c9 => ?_) (fun c9 => ?_)
  ·
    replace c9 := bI_nz c9
    refine x_aload_n (pc' := 16) C 0 dX12_room_15 rfl rfl ?_
    refine x_get (pc' := 19) C dX12_room_16 rfl ff_X12_23_11 0 rfl rfl ?_
    refine x_istore_n (pc' := 20) (lv' := [(2, .int (iI (σ 0 4))), (0, .ref (md 0)), (1, .int (iI t))]) C dX12_room_19 rfl (by decide) rfl ?_
    refine x_aload_n (pc' := 21) C 1 dX12_room_20 rfl rfl ?_
    refine x_iload_n (pc' := 22) C 2 dX12_room_21 rfl rfl ?_
    refine x_put (pc' := 25) (ws' := [((md 0), ob 11 [.int (iI (σ 0 0)), .int (iI (k : Int)), .ref (md 1), .int (iI (nl : Int)), .ref (md 2), .ref (md 3), .int (iI (nt : Int)), .int (iI t), .ref (md 4), .int (iI (nb : Int)), .long (lI (σ 0 6)), .long (lI (σ 0 7)), .ref (md 5), .ref (md 6), .ref (md 7), .ref (md 8), .int (iI (mn : Int)), .ref (md 9), .ref (md 10), .ref (md 11), .int (iI (pm : Int)), .long (lI (μ 0 0)), .long (lI (μ 0 1)), .long (lI (μ 0 2)), .long (lI (μ 0 3))]), ((md 1), ia E 56 (mI 1 4 σ)), ((md 2), ia E 32 (mI 5 2 σ)), ((md 3), ia E 24 (mI 7 3 σ)), ((md 4), ia E 24 (mI 10 3 σ))]) C dX12_room_22 rfl pf_X12_23_11 0 rfl rfl rfl (Nat.le_of_ble_eq_true rfl) rfl ?_
    refine x_iload_n (pc' := 26) C 0 dX12_room_25 rfl rfl ?_
    refine x_ws (ws' := [((md 0), ob 11 [.int (iI ((ap σ 0 4 t) 0 0)), .int (iI (k : Int)), .ref (md 1), .int (iI (nl : Int)), .ref (md 2), .ref (md 3), .int (iI (nt : Int)), .int (iI ((ap σ 0 4 t) 0 4)), .ref (md 4), .int (iI (nb : Int)), .long (lI ((ap σ 0 4 t) 0 6)), .long (lI ((ap σ 0 4 t) 0 7)), .ref (md 5), .ref (md 6), .ref (md 7), .ref (md 8), .int (iI (mn : Int)), .ref (md 9), .ref (md 10), .ref (md 11), .int (iI (pm : Int)), .long (lI (μ 0 0)), .long (lI (μ 0 1)), .long (lI (μ 0 2)), .long (lI (μ 0 3))]), ((md 1), ia E 56 (mI 1 4 (ap σ 0 4 t))), ((md 2), ia E 32 (mI 5 2 (ap σ 0 4 t))), ((md 3), ia E 24 (mI 7 3 (ap σ 0 4 t))), ((md 4), ia E 24 (mI 10 3 (ap σ 0 4 t)))]) (by simp only [mI_apO (r := 1) (w := 4) (q := 0) (by decide) (by decide), mI_apO (r := 5) (w := 2) (q := 0) (by decide) (by decide), mI_apO (r := 7) (w := 3) (q := 0) (by decide) (by decide), mI_apO (r := 10) (w := 3) (q := 0) (by decide) (by decide)] <;> rfl) ?_
    exact x_iret C hr dX12_room_26 ⟨(σ 0 4), (ap σ 0 4 t), rfl, rfl, (show ((σ 0 4), (ap σ 0 4 t)) = sp_room σ t from by unfold sp_room; first | rw [if_neg (by omega)] | rw [if_pos (by omega), if_pos (by omega)] | rw [if_pos (by omega), if_neg (by omega)] | rw [if_pos (by omega)])⟩
  ·
    replace c9 := bI_z c9
    refine x_bipush (pc' := 14) C dX12_room_12 rfl rfl ?_
    exact x_iret C hr dX12_room_14 ⟨(-2), σ, rfl, rfl, (show ((-2), σ) = sp_room σ t from by unfold sp_room; first | rw [if_neg (by omega)] | rw [if_pos (by omega), if_pos (by omega)] | rw [if_pos (by omega), if_neg (by omega)] | rw [if_pos (by omega)])⟩

set_option maxHeartbeats 4000000 in
set_option maxRecDepth 100000 in
theorem c_X12_block (l : Launch) (E : EV) (md : Nat → Nat) (k : Nat) (nl : Nat) (nt : Nat) (nb : Nat) (σ : AS) (mn : Nat) (pm : Nat) (μ : AS) (x : Int) (y : Int) (r_x : -2147483648 ≤ x ∧ x < 2147483648) (r_y : -2147483648 ≤ y ∧ y < 2147483648) (hk : k < 5) (hnl : nl ≤ 14) (hnt : nt ≤ 8) (hnb : nb ≤ 8) : MC l E yX12_block cX12_block 3 (some .int) ({ frames := 2, cells := 0, slots := 0, locals := 46 }) [.ref (md 0), .int (iI x), .int (iI y)] [((md 0), ob 11 [.int (iI (σ 0 0)), .int (iI (k : Int)), .ref (md 1), .int (iI (nl : Int)), .ref (md 2), .ref (md 3), .int (iI (nt : Int)), .int (iI (σ 0 4)), .ref (md 4), .int (iI (nb : Int)), .long (lI (σ 0 6)), .long (lI (σ 0 7)), .ref (md 5), .ref (md 6), .ref (md 7), .ref (md 8), .int (iI (mn : Int)), .ref (md 9), .ref (md 10), .ref (md 11), .int (iI (pm : Int)), .long (lI (μ 0 0)), .long (lI (μ 0 1)), .long (lI (μ 0 2)), .long (lI (μ 0 3))]), ((md 1), ia E 56 (mI 1 4 σ)), ((md 2), ia E 32 (mI 5 2 σ)), ((md 3), ia E 24 (mI 7 3 σ)), ((md 4), ia E 24 (mI 10 3 σ))] (fun v_ w_ => ∃ (r : Int) (nb2 : Nat) (σ2 : AS), v_ = some (.int (iI r)) ∧ w_ = [((md 0), ob 11 [.int (iI (σ2 0 0)), .int (iI (k : Int)), .ref (md 1), .int (iI (nl : Int)), .ref (md 2), .ref (md 3), .int (iI (nt : Int)), .int (iI (σ2 0 4)), .ref (md 4), .int (iI (nb2 : Int)), .long (lI (σ2 0 6)), .long (lI (σ2 0 7)), .ref (md 5), .ref (md 6), .ref (md 7), .ref (md 8), .int (iI (mn : Int)), .ref (md 9), .ref (md 10), .ref (md 11), .int (iI (pm : Int)), .long (lI (μ 0 0)), .long (lI (μ 0 1)), .long (lI (μ 0 2)), .long (lI (μ 0 3))]), ((md 1), ia E 56 (mI 1 4 σ2)), ((md 2), ia E 32 (mI 5 2 σ2)), ((md 3), ia E 24 (mI 7 3 σ2)), ((md 4), ia E 24 (mI 10 3 σ2))] ∧ ((r, nb2, σ2) = sp_block nb σ x y)) := by
  refine MC.of (by decide +kernel) (Nat.le_of_ble_eq_true rfl) ?_
  intro p_ e_ s_ m_ args_ below_ meth_ c_ A_ C hr hnm
  have C : Cx p_ s_ m_ args_ meth_ c_ E A_ 3 cX12_block RX12 := C
  show Wx _ _ _ _ _ _ _ _ _ _ _ _ _ _ _ _ 0 [(0, .ref (md 0)), (1, .int (iI x)), (2, .int (iI y))] [] [((md 0), ob 11 [.int (iI (σ 0 0)), .int (iI (k : Int)), .ref (md 1), .int (iI (nl : Int)), .ref (md 2), .ref (md 3), .int (iI (nt : Int)), .int (iI (σ 0 4)), .ref (md 4), .int (iI (nb : Int)), .long (lI (σ 0 6)), .long (lI (σ 0 7)), .ref (md 5), .ref (md 6), .ref (md 7), .ref (md 8), .int (iI (mn : Int)), .ref (md 9), .ref (md 10), .ref (md 11), .int (iI (pm : Int)), .long (lI (μ 0 0)), .long (lI (μ 0 1)), .long (lI (μ 0 2)), .long (lI (μ 0 3))]), ((md 1), ia E 56 (mI 1 4 σ)), ((md 2), ia E 32 (mI 5 2 σ)), ((md 3), ia E 24 (mI 7 3 σ)), ((md 4), ia E 24 (mI 10 3 σ))]
  refine x_iload_n (pc' := 1) C 1 dX12_block_0 rfl rfl ?_
  refine x_iload_n (pc' := 2) C 2 dX12_block_1 rfl rfl ?_
  refine x_callS (pc' := 5) (As := [.int (iI x), .int (iI y)]) (rest := []) C cs_X12_70 dX12_block_2 rfl (c_X12_isLine l E x y (show -2147483648 ≤ x ∧ x < 2147483648 from by omega) (show -2147483648 ≤ y ∧ y < 2147483648 from by omega)) mm_X12_isLine (hstk := rfl) (hlen := rfl) (hcat := Nat.le_of_ble_eq_true rfl) (isC := []) (isR := [0, 1, 2, 3, 4]) (wr := [((md 0), ob 11 [.int (iI (σ 0 0)), .int (iI (k : Int)), .ref (md 1), .int (iI (nl : Int)), .ref (md 2), .ref (md 3), .int (iI (nt : Int)), .int (iI (σ 0 4)), .ref (md 4), .int (iI (nb : Int)), .long (lI (σ 0 6)), .long (lI (σ 0 7)), .ref (md 5), .ref (md 6), .ref (md 7), .ref (md 8), .int (iI (mn : Int)), .ref (md 9), .ref (md 10), .ref (md 11), .int (iI (pm : Int)), .long (lI (μ 0 0)), .long (lI (μ 0 1)), .long (lI (μ 0 2)), .long (lI (μ 0 3))]), ((md 1), ia E 56 (mI 1 4 σ)), ((md 2), ia E 32 (mI 5 2 σ)), ((md 3), ia E 24 (mI 7 3 σ)), ((md 4), ia E 24 (mI 10 3 σ))]) (hC := rfl) (hR := rfl) (hnC := rfl) (hn := rfl) (hdis := by decide) (hR1 := ⟨Nat.le_of_ble_eq_true rfl, Nat.le_of_ble_eq_true rfl⟩) (hcs := ⟨Nat.le_of_ble_eq_true rfl, Nat.le_of_ble_eq_true rfl⟩) (fun v_ w_ hp_ => ?_)
  obtain ⟨rfl, rfl⟩ := hp_
  show Wx _ _ _ _ _ _ _ _ _ _ _ _ _ _ _ _ 5 [(0, .ref (md 0)), (1, .int (iI x)), (2, .int (iI y))] [.int (iI (bI ((-100 ≤ x ∧ x ≤ 100) ∧ (-100 ≤ y ∧ y ≤ 100))))] [((md 0), ob 11 [.int (iI (σ 0 0)), .int (iI (k : Int)), .ref (md 1), .int (iI (nl : Int)), .ref (md 2), .ref (md 3), .int (iI (nt : Int)), .int (iI (σ 0 4)), .ref (md 4), .int (iI (nb : Int)), .long (lI (σ 0 6)), .long (lI (σ 0 7)), .ref (md 5), .ref (md 6), .ref (md 7), .ref (md 8), .int (iI (mn : Int)), .ref (md 9), .ref (md 10), .ref (md 11), .int (iI (pm : Int)), .long (lI (μ 0 0)), .long (lI (μ 0 1)), .long (lI (μ 0 2)), .long (lI (μ 0 3))]), ((md 1), ia E 56 (mI 1 4 σ)), ((md 2), ia E 32 (mI 5 2 σ)), ((md 3), ia E 24 (mI 7 3 σ)), ((md 4), ia E 24 (mI 10 3 σ))]
  refine x_if_ne (pc' := 8) (tgt := 11) C dX12_block_5 rfl (by decide) (bI_rng) (fun c5 => ?_) (fun c5 => ?_)
  ·
    replace c5 := bI_nz c5
    refine x_aload_n (pc' := 12) C 0 dX12_block_11 rfl rfl ?_
    refine x_get (pc' := 15) C dX12_block_12 rfl ff_X12_86_11 0 rfl rfl ?_
    refine x_bipush (pc' := 17) C dX12_block_15 rfl rfl ?_
    refine x_icmp_ne (pc' := 20) (tgt := 23) C dX12_block_17 rfl (by decide) (by omega) (by omega) (fun c17 => ?_) (fun c17 => ?_)
    ·
      refine x_aload_n (pc' := 24) C 0 dX12_block_23 rfl rfl ?_
      refine x_get (pc' := 27) C dX12_block_24 rfl ff_X12_26_11 0 rfl rfl ?_
      refine x_iconst (pc' := 28) C dX12_block_27 rfl ?_
      refine x_aload_n (pc' := 29) C 0 dX12_block_28 rfl rfl ?_
      refine x_get (pc' := 32) C dX12_block_29 rfl ff_X12_86_11 0 rfl rfl ?_
      refine x_imul (pc' := 33) C dX12_block_32 rfl ?_
      refine x_iload_n (pc' := 34) C 1 dX12_block_33 rfl rfl ?_
      refine x_iast (pc' := 35) (ws' := [((md 0), ob 11 [.int (iI (σ 0 0)), .int (iI (k : Int)), .ref (md 1), .int (iI (nl : Int)), .ref (md 2), .ref (md 3), .int (iI (nt : Int)), .int (iI (σ 0 4)), .ref (md 4), .int (iI (nb : Int)), .long (lI (σ 0 6)), .long (lI (σ 0 7)), .ref (md 5), .ref (md 6), .ref (md 7), .ref (md 8), .int (iI (mn : Int)), .ref (md 9), .ref (md 10), .ref (md 11), .int (iI (pm : Int)), .long (lI (μ 0 0)), .long (lI (μ 0 1)), .long (lI (μ 0 2)), .long (lI (μ 0 3))]), ((md 1), ia E 56 (mI 1 4 σ)), ((md 2), ia E 32 (mI 5 2 σ)), ((md 3), ia E 24 (mI 7 3 σ)), ((md 4), ia E 24 (va_up (mI 10 3 σ) (3 * nb) x))]) C (3 * nb) dX12_block_34 rfl 4 rfl (by omega) (by omega) (by omega) rfl ?_
      refine x_aload_n (pc' := 36) C 0 dX12_block_35 rfl rfl ?_
      refine x_get (pc' := 39) C dX12_block_36 rfl ff_X12_26_11 0 rfl rfl ?_
      refine x_iconst (pc' := 40) C dX12_block_39 rfl ?_
      refine x_aload_n (pc' := 41) C 0 dX12_block_40 rfl rfl ?_
      refine x_get (pc' := 44) C dX12_block_41 rfl ff_X12_86_11 0 rfl rfl ?_
      refine x_imul (pc' := 45) C dX12_block_44 rfl ?_
      refine x_iconst (pc' := 46) C dX12_block_45 rfl ?_
      refine x_iadd (pc' := 47) C dX12_block_46 rfl ?_
      refine x_iload_n (pc' := 48) C 2 dX12_block_47 rfl rfl ?_
      refine x_iast (pc' := 49) (ws' := [((md 0), ob 11 [.int (iI (σ 0 0)), .int (iI (k : Int)), .ref (md 1), .int (iI (nl : Int)), .ref (md 2), .ref (md 3), .int (iI (nt : Int)), .int (iI (σ 0 4)), .ref (md 4), .int (iI (nb : Int)), .long (lI (σ 0 6)), .long (lI (σ 0 7)), .ref (md 5), .ref (md 6), .ref (md 7), .ref (md 8), .int (iI (mn : Int)), .ref (md 9), .ref (md 10), .ref (md 11), .int (iI (pm : Int)), .long (lI (μ 0 0)), .long (lI (μ 0 1)), .long (lI (μ 0 2)), .long (lI (μ 0 3))]), ((md 1), ia E 56 (mI 1 4 σ)), ((md 2), ia E 32 (mI 5 2 σ)), ((md 3), ia E 24 (mI 7 3 σ)), ((md 4), ia E 24 (va_up (va_up (mI 10 3 σ) (3 * nb) x) ((3 * nb) + 1) y))]) C ((3 * nb) + 1) dX12_block_48 rfl 4 rfl (by omega) (by omega) (by omega) rfl ?_
      refine x_aload_n (pc' := 50) C 0 dX12_block_49 rfl rfl ?_
      refine x_get (pc' := 53) C dX12_block_50 rfl ff_X12_26_11 0 rfl rfl ?_
      refine x_iconst (pc' := 54) C dX12_block_53 rfl ?_
      refine x_aload_n (pc' := 55) C 0 dX12_block_54 rfl rfl ?_
      refine x_get (pc' := 58) C dX12_block_55 rfl ff_X12_86_11 0 rfl rfl ?_
      refine x_imul (pc' := 59) C dX12_block_58 rfl ?_
      refine x_iconst (pc' := 60) C dX12_block_59 rfl ?_
      refine x_iadd (pc' := 61) C dX12_block_60 rfl ?_
      refine x_iconst (pc' := 62) C dX12_block_61 rfl ?_
      refine x_iast (pc' := 63) (ws' := [((md 0), ob 11 [.int (iI (σ 0 0)), .int (iI (k : Int)), .ref (md 1), .int (iI (nl : Int)), .ref (md 2), .ref (md 3), .int (iI (nt : Int)), .int (iI (σ 0 4)), .ref (md 4), .int (iI (nb : Int)), .long (lI (σ 0 6)), .long (lI (σ 0 7)), .ref (md 5), .ref (md 6), .ref (md 7), .ref (md 8), .int (iI (mn : Int)), .ref (md 9), .ref (md 10), .ref (md 11), .int (iI (pm : Int)), .long (lI (μ 0 0)), .long (lI (μ 0 1)), .long (lI (μ 0 2)), .long (lI (μ 0 3))]), ((md 1), ia E 56 (mI 1 4 σ)), ((md 2), ia E 32 (mI 5 2 σ)), ((md 3), ia E 24 (mI 7 3 σ)), ((md 4), ia E 24 (va_up (va_up (va_up (mI 10 3 σ) (3 * nb) x) ((3 * nb) + 1) y) ((3 * nb) + 2) 0))]) C ((3 * nb) + 2) dX12_block_62 rfl 4 rfl (by omega) (by omega) (by omega) rfl ?_
      refine x_aload_n (pc' := 64) C 0 dX12_block_63 rfl rfl ?_
      refine x_dup (pc' := 65) C dX12_block_64 rfl rfl ?_
      refine x_get (pc' := 68) C dX12_block_65 rfl ff_X12_86_11 0 rfl rfl ?_
      refine x_iconst (pc' := 69) C dX12_block_68 rfl ?_
      refine x_iadd (pc' := 70) C dX12_block_69 rfl ?_
      refine x_top (b := .int (iI ((nb + 1 : Nat) : Int))) (rfl) ?_
      refine x_put (pc' := 73) (ws' := [((md 0), ob 11 [.int (iI (σ 0 0)), .int (iI (k : Int)), .ref (md 1), .int (iI (nl : Int)), .ref (md 2), .ref (md 3), .int (iI (nt : Int)), .int (iI (σ 0 4)), .ref (md 4), .int (iI ((nb + 1 : Nat) : Int)), .long (lI (σ 0 6)), .long (lI (σ 0 7)), .ref (md 5), .ref (md 6), .ref (md 7), .ref (md 8), .int (iI (mn : Int)), .ref (md 9), .ref (md 10), .ref (md 11), .int (iI (pm : Int)), .long (lI (μ 0 0)), .long (lI (μ 0 1)), .long (lI (μ 0 2)), .long (lI (μ 0 3))]), ((md 1), ia E 56 (mI 1 4 σ)), ((md 2), ia E 32 (mI 5 2 σ)), ((md 3), ia E 24 (mI 7 3 σ)), ((md 4), ia E 24 (va_up (va_up (va_up (mI 10 3 σ) (3 * nb) x) ((3 * nb) + 1) y) ((3 * nb) + 2) 0))]) C dX12_block_70 rfl pf_X12_86_11 0 rfl rfl rfl (Nat.le_of_ble_eq_true rfl) rfl ?_
      refine x_aload_n (pc' := 74) C 0 dX12_block_73 rfl rfl ?_
      refine x_get (pc' := 77) C dX12_block_74 rfl ff_X12_86_11 0 rfl rfl ?_
      refine x_iconst (pc' := 78) C dX12_block_77 rfl ?_
      refine x_isub (pc' := 79) C dX12_block_78 rfl ?_
      refine x_top (b := .int (iI (nb : Int))) (by congr 2; omega) ?_
      refine x_ws (ws' := [((md 0), ob 11 [.int (iI ((ap (ap (ap σ 10 nb x) 11 nb y) 12 nb 0) 0 0)), .int (iI (k : Int)), .ref (md 1), .int (iI (nl : Int)), .ref (md 2), .ref (md 3), .int (iI (nt : Int)), .int (iI ((ap (ap (ap σ 10 nb x) 11 nb y) 12 nb 0) 0 4)), .ref (md 4), .int (iI ((nb + 1 : Nat) : Int)), .long (lI ((ap (ap (ap σ 10 nb x) 11 nb y) 12 nb 0) 0 6)), .long (lI ((ap (ap (ap σ 10 nb x) 11 nb y) 12 nb 0) 0 7)), .ref (md 5), .ref (md 6), .ref (md 7), .ref (md 8), .int (iI (mn : Int)), .ref (md 9), .ref (md 10), .ref (md 11), .int (iI (pm : Int)), .long (lI (μ 0 0)), .long (lI (μ 0 1)), .long (lI (μ 0 2)), .long (lI (μ 0 3))]), ((md 1), ia E 56 (mI 1 4 (ap (ap (ap σ 10 nb x) 11 nb y) 12 nb 0))), ((md 2), ia E 32 (mI 5 2 (ap (ap (ap σ 10 nb x) 11 nb y) 12 nb 0))), ((md 3), ia E 24 (mI 7 3 (ap (ap (ap σ 10 nb x) 11 nb y) 12 nb 0))), ((md 4), ia E 24 (mI 10 3 (ap (ap (ap σ 10 nb x) 11 nb y) 12 nb 0)))]) (by simp only [mI_apO (r := 1) (w := 4) (q := 10) (by decide) (by decide), mI_apO (r := 1) (w := 4) (q := 11) (by decide) (by decide), mI_apO (r := 1) (w := 4) (q := 12) (by decide) (by decide), mI_apO (r := 5) (w := 2) (q := 10) (by decide) (by decide), mI_apO (r := 5) (w := 2) (q := 11) (by decide) (by decide), mI_apO (r := 5) (w := 2) (q := 12) (by decide) (by decide), mI_apO (r := 7) (w := 3) (q := 10) (by decide) (by decide), mI_apO (r := 7) (w := 3) (q := 11) (by decide) (by decide), mI_apO (r := 7) (w := 3) (q := 12) (by decide) (by decide), mI_ap0 (r := 10) (w := 3) (by decide), mI_ap (r := 10) (w := 3) (d := 1) (by decide), mI_ap (r := 10) (w := 3) (d := 2) (by decide)] <;> rfl) ?_
      exact x_iret C hr dX12_block_79 ⟨(nb : Int), (nb + 1), (ap (ap (ap σ 10 nb x) 11 nb y) 12 nb 0), rfl, rfl, (show ((nb : Int), (nb + 1), (ap (ap (ap σ 10 nb x) 11 nb y) 12 nb 0)) = sp_block nb σ x y from by unfold sp_block; first | rw [if_neg (by omega)] | rw [if_pos (by omega), if_pos (by omega)] | rw [if_pos (by omega), if_neg (by omega)] | rw [if_pos (by omega)])⟩
    ·
      refine x_bipush (pc' := 22) C dX12_block_20 rfl rfl ?_
      exact x_iret C hr dX12_block_22 ⟨(-4), nb, σ, rfl, rfl, (show ((-4), nb, σ) = sp_block nb σ x y from by unfold sp_block; first | rw [if_neg (by omega)] | rw [if_pos (by omega), if_pos (by omega)] | rw [if_pos (by omega), if_neg (by omega)] | rw [if_pos (by omega)])⟩
  ·
    replace c5 := bI_z c5
    refine x_bipush (pc' := 10) C dX12_block_8 rfl rfl ?_
    exact x_iret C hr dX12_block_10 ⟨(-2), nb, σ, rfl, rfl, (show ((-2), nb, σ) = sp_block nb σ x y from by unfold sp_block; first | rw [if_neg (by omega)] | rw [if_pos (by omega), if_pos (by omega)] | rw [if_pos (by omega), if_neg (by omega)] | rw [if_pos (by omega)])⟩

set_option maxHeartbeats 4000000 in
set_option maxRecDepth 100000 in
theorem c_X12_needs (l : Launch) (E : EV) (md : Nat → Nat) (k : Nat) (nl : Nat) (nt : Nat) (nb : Nat) (σ : AS) (mn : Nat) (pm : Nat) (μ : AS) (u : Int) (v : Int) (z : Int) (r_u : -2147483648 ≤ u ∧ u < 2147483648) (r_v : -2147483648 ≤ v ∧ v < 2147483648) (r_z : -2147483648 ≤ z ∧ z < 2147483648) (hN : ∀ j : Nat, j < nb → 0 ≤ σ 12 j ∧ σ 12 j < 256) (hk : k < 5) (hnl : nl ≤ 14) (hnt : nt ≤ 8) (hnb : nb ≤ 8) : MC l E yX12_needs cX12_needs 5 (some .int) ({ frames := 1, cells := 0, slots := 0, locals := 25 }) [.ref (md 0), .int (iI u), .int (iI v), .int (iI z)] [((md 0), ob 11 [.int (iI (σ 0 0)), .int (iI (k : Int)), .ref (md 1), .int (iI (nl : Int)), .ref (md 2), .ref (md 3), .int (iI (nt : Int)), .int (iI (σ 0 4)), .ref (md 4), .int (iI (nb : Int)), .long (lI (σ 0 6)), .long (lI (σ 0 7)), .ref (md 5), .ref (md 6), .ref (md 7), .ref (md 8), .int (iI (mn : Int)), .ref (md 9), .ref (md 10), .ref (md 11), .int (iI (pm : Int)), .long (lI (μ 0 0)), .long (lI (μ 0 1)), .long (lI (μ 0 2)), .long (lI (μ 0 3))]), ((md 1), ia E 56 (mI 1 4 σ)), ((md 2), ia E 32 (mI 5 2 σ)), ((md 3), ia E 24 (mI 7 3 σ)), ((md 4), ia E 24 (mI 10 3 σ))] (fun v_ w_ => ∃ (r : Int) (σ2 : AS), v_ = some (.int (iI r)) ∧ w_ = [((md 0), ob 11 [.int (iI (σ2 0 0)), .int (iI (k : Int)), .ref (md 1), .int (iI (nl : Int)), .ref (md 2), .ref (md 3), .int (iI (nt : Int)), .int (iI (σ2 0 4)), .ref (md 4), .int (iI (nb : Int)), .long (lI (σ2 0 6)), .long (lI (σ2 0 7)), .ref (md 5), .ref (md 6), .ref (md 7), .ref (md 8), .int (iI (mn : Int)), .ref (md 9), .ref (md 10), .ref (md 11), .int (iI (pm : Int)), .long (lI (μ 0 0)), .long (lI (μ 0 1)), .long (lI (μ 0 2)), .long (lI (μ 0 3))]), ((md 1), ia E 56 (mI 1 4 σ2)), ((md 2), ia E 32 (mI 5 2 σ2)), ((md 3), ia E 24 (mI 7 3 σ2)), ((md 4), ia E 24 (mI 10 3 σ2))] ∧ ((r, σ2) = sp_needs nb σ u v z)) := by
  refine MC.of (by decide +kernel) (Nat.le_of_ble_eq_true rfl) ?_
  intro p_ e_ s_ m_ args_ below_ meth_ c_ A_ C hr hnm
  have C : Cx p_ s_ m_ args_ meth_ c_ E A_ 5 cX12_needs RX12 := C
  show Wx _ _ _ _ _ _ _ _ _ _ _ _ _ _ _ _ 0 [(0, .ref (md 0)), (1, .int (iI u)), (2, .int (iI v)), (3, .int (iI z))] [] [((md 0), ob 11 [.int (iI (σ 0 0)), .int (iI (k : Int)), .ref (md 1), .int (iI (nl : Int)), .ref (md 2), .ref (md 3), .int (iI (nt : Int)), .int (iI (σ 0 4)), .ref (md 4), .int (iI (nb : Int)), .long (lI (σ 0 6)), .long (lI (σ 0 7)), .ref (md 5), .ref (md 6), .ref (md 7), .ref (md 8), .int (iI (mn : Int)), .ref (md 9), .ref (md 10), .ref (md 11), .int (iI (pm : Int)), .long (lI (μ 0 0)), .long (lI (μ 0 1)), .long (lI (μ 0 2)), .long (lI (μ 0 3))]), ((md 1), ia E 56 (mI 1 4 σ)), ((md 2), ia E 32 (mI 5 2 σ)), ((md 3), ia E 24 (mI 7 3 σ)), ((md 4), ia E 24 (mI 10 3 σ))]
  refine x_iload_n (pc' := 1) C 1 dX12_needs_0 rfl rfl ?_
  refine x_i2l (pc' := 2) C dX12_needs_1 rfl (by omega) ?_
  refine x_lconst (pc' := 3) (z := 0) C dX12_needs_2 rfl rfl ?_
  refine x_aload_n (pc' := 4) C 0 dX12_needs_3 rfl rfl ?_
  refine x_get (pc' := 7) C dX12_needs_4 rfl ff_X12_86_11 0 rfl rfl ?_
  refine x_iconst (pc' := 8) C dX12_needs_7 rfl ?_
  refine x_isub (pc' := 9) C dX12_needs_8 rfl ?_
  refine x_i2l (pc' := 10) C dX12_needs_9 rfl (by omega) ?_
  refine x_callS (pc' := 13) (As := [.long (lI u), .long (lI 0), .long (lI ((nb : Int) - 1))]) (rest := []) C cs_X12_59 dX12_needs_10 rfl (c_X12_in l E u 0 ((nb : Int) - 1) (show -9223372036854775808 ≤ u ∧ u < 9223372036854775808 from by omega) (show -9223372036854775808 ≤ 0 ∧ 0 < 9223372036854775808 from by omega) (show -9223372036854775808 ≤ ((nb : Int) - 1) ∧ ((nb : Int) - 1) < 9223372036854775808 from by omega)) mm_X12_in (hstk := rfl) (hlen := rfl) (hcat := Nat.le_of_ble_eq_true rfl) (isC := []) (isR := [0, 1, 2, 3, 4]) (wr := [((md 0), ob 11 [.int (iI (σ 0 0)), .int (iI (k : Int)), .ref (md 1), .int (iI (nl : Int)), .ref (md 2), .ref (md 3), .int (iI (nt : Int)), .int (iI (σ 0 4)), .ref (md 4), .int (iI (nb : Int)), .long (lI (σ 0 6)), .long (lI (σ 0 7)), .ref (md 5), .ref (md 6), .ref (md 7), .ref (md 8), .int (iI (mn : Int)), .ref (md 9), .ref (md 10), .ref (md 11), .int (iI (pm : Int)), .long (lI (μ 0 0)), .long (lI (μ 0 1)), .long (lI (μ 0 2)), .long (lI (μ 0 3))]), ((md 1), ia E 56 (mI 1 4 σ)), ((md 2), ia E 32 (mI 5 2 σ)), ((md 3), ia E 24 (mI 7 3 σ)), ((md 4), ia E 24 (mI 10 3 σ))]) (hC := rfl) (hR := rfl) (hnC := rfl) (hn := rfl) (hdis := by decide) (hR1 := ⟨Nat.le_of_ble_eq_true rfl, Nat.le_of_ble_eq_true rfl⟩) (hcs := ⟨Nat.le_of_ble_eq_true rfl, Nat.le_of_ble_eq_true rfl⟩) (fun v_ w_ hp_ => ?_)
  obtain ⟨rfl, rfl⟩ := hp_
  show Wx _ _ _ _ _ _ _ _ _ _ _ _ _ _ _ _ 13 [(0, .ref (md 0)), (1, .int (iI u)), (2, .int (iI v)), (3, .int (iI z))] [.int (iI (bI (0 ≤ u ∧ u ≤ ((nb : Int) - 1))))] [((md 0), ob 11 [.int (iI (σ 0 0)), .int (iI (k : Int)), .ref (md 1), .int (iI (nl : Int)), .ref (md 2), .ref (md 3), .int (iI (nt : Int)), .int (iI (σ 0 4)), .ref (md 4), .int (iI (nb : Int)), .long (lI (σ 0 6)), .long (lI (σ 0 7)), .ref (md 5), .ref (md 6), .ref (md 7), .ref (md 8), .int (iI (mn : Int)), .ref (md 9), .ref (md 10), .ref (md 11), .int (iI (pm : Int)), .long (lI (μ 0 0)), .long (lI (μ 0 1)), .long (lI (μ 0 2)), .long (lI (μ 0 3))]), ((md 1), ia E 56 (mI 1 4 σ)), ((md 2), ia E 32 (mI 5 2 σ)), ((md 3), ia E 24 (mI 7 3 σ)), ((md 4), ia E 24 (mI 10 3 σ))]
  refine x_if_eq (pc' := 16) (tgt := 37) C dX12_needs_13 rfl (by decide) (bI_rng) (fun c13 => ?_) (fun c13 => ?_)
  ·
    replace c13 := bI_z c13
    refine x_bipush (pc' := 39) C dX12_needs_37 rfl rfl ?_
    exact x_iret C hr dX12_needs_39 ⟨(-2), σ, rfl, rfl, (show ((-2), σ) = sp_needs nb σ u v z from by unfold sp_needs; rw [if_neg (by omega)])⟩
  ·
    replace c13 := bI_nz c13
    refine x_iload_n (pc' := 17) C 2 dX12_needs_16 rfl rfl ?_
    refine x_i2l (pc' := 18) C dX12_needs_17 rfl (by omega) ?_
    refine x_lconst (pc' := 19) (z := 0) C dX12_needs_18 rfl rfl ?_
    refine x_aload_n (pc' := 20) C 0 dX12_needs_19 rfl rfl ?_
    refine x_get (pc' := 23) C dX12_needs_20 rfl ff_X12_86_11 0 rfl rfl ?_
    refine x_iconst (pc' := 24) C dX12_needs_23 rfl ?_
    refine x_isub (pc' := 25) C dX12_needs_24 rfl ?_
    refine x_i2l (pc' := 26) C dX12_needs_25 rfl (by omega) ?_
    refine x_callS (pc' := 29) (As := [.long (lI v), .long (lI 0), .long (lI ((nb : Int) - 1))]) (rest := []) C cs_X12_59 dX12_needs_26 rfl (c_X12_in l E v 0 ((nb : Int) - 1) (show -9223372036854775808 ≤ v ∧ v < 9223372036854775808 from by omega) (show -9223372036854775808 ≤ 0 ∧ 0 < 9223372036854775808 from by omega) (show -9223372036854775808 ≤ ((nb : Int) - 1) ∧ ((nb : Int) - 1) < 9223372036854775808 from by omega)) mm_X12_in (hstk := rfl) (hlen := rfl) (hcat := Nat.le_of_ble_eq_true rfl) (isC := []) (isR := [0, 1, 2, 3, 4]) (wr := [((md 0), ob 11 [.int (iI (σ 0 0)), .int (iI (k : Int)), .ref (md 1), .int (iI (nl : Int)), .ref (md 2), .ref (md 3), .int (iI (nt : Int)), .int (iI (σ 0 4)), .ref (md 4), .int (iI (nb : Int)), .long (lI (σ 0 6)), .long (lI (σ 0 7)), .ref (md 5), .ref (md 6), .ref (md 7), .ref (md 8), .int (iI (mn : Int)), .ref (md 9), .ref (md 10), .ref (md 11), .int (iI (pm : Int)), .long (lI (μ 0 0)), .long (lI (μ 0 1)), .long (lI (μ 0 2)), .long (lI (μ 0 3))]), ((md 1), ia E 56 (mI 1 4 σ)), ((md 2), ia E 32 (mI 5 2 σ)), ((md 3), ia E 24 (mI 7 3 σ)), ((md 4), ia E 24 (mI 10 3 σ))]) (hC := rfl) (hR := rfl) (hnC := rfl) (hn := rfl) (hdis := by decide) (hR1 := ⟨Nat.le_of_ble_eq_true rfl, Nat.le_of_ble_eq_true rfl⟩) (hcs := ⟨Nat.le_of_ble_eq_true rfl, Nat.le_of_ble_eq_true rfl⟩) (fun v_ w_ hp_ => ?_)
    obtain ⟨rfl, rfl⟩ := hp_
    show Wx _ _ _ _ _ _ _ _ _ _ _ _ _ _ _ _ 29 [(0, .ref (md 0)), (1, .int (iI u)), (2, .int (iI v)), (3, .int (iI z))] [.int (iI (bI (0 ≤ v ∧ v ≤ ((nb : Int) - 1))))] [((md 0), ob 11 [.int (iI (σ 0 0)), .int (iI (k : Int)), .ref (md 1), .int (iI (nl : Int)), .ref (md 2), .ref (md 3), .int (iI (nt : Int)), .int (iI (σ 0 4)), .ref (md 4), .int (iI (nb : Int)), .long (lI (σ 0 6)), .long (lI (σ 0 7)), .ref (md 5), .ref (md 6), .ref (md 7), .ref (md 8), .int (iI (mn : Int)), .ref (md 9), .ref (md 10), .ref (md 11), .int (iI (pm : Int)), .long (lI (μ 0 0)), .long (lI (μ 0 1)), .long (lI (μ 0 2)), .long (lI (μ 0 3))]), ((md 1), ia E 56 (mI 1 4 σ)), ((md 2), ia E 32 (mI 5 2 σ)), ((md 3), ia E 24 (mI 7 3 σ)), ((md 4), ia E 24 (mI 10 3 σ))]
    refine x_if_eq (pc' := 32) (tgt := 37) C dX12_needs_29 rfl (by decide) (bI_rng) (fun c29 => ?_) (fun c29 => ?_)
    ·
      replace c29 := bI_z c29
      refine x_bipush (pc' := 39) C dX12_needs_37 rfl rfl ?_
      exact x_iret C hr dX12_needs_39 ⟨(-2), σ, rfl, rfl, (show ((-2), σ) = sp_needs nb σ u v z from by unfold sp_needs; rw [if_neg (by omega)])⟩
    ·
      replace c29 := bI_nz c29
      refine x_iload_n (pc' := 33) C 1 dX12_needs_32 rfl rfl ?_
      refine x_iload_n (pc' := 34) C 2 dX12_needs_33 rfl rfl ?_
      refine x_icmp_ne (pc' := 37) (tgt := 40) C dX12_needs_34 rfl (by decide) (by omega) (by omega) (fun c34 => ?_) (fun c34 => ?_)
      ·
        have hN1 := hN u.toNat (by omega)
        have hv_ : iI v = iI ((v.toNat : Nat) : Int) := by congr 1; omega
        refine x_aload_n (pc' := 41) C 0 dX12_needs_40 rfl rfl ?_
        refine x_get (pc' := 44) C dX12_needs_41 rfl ff_X12_26_11 0 rfl rfl ?_
        refine x_iconst (pc' := 45) C dX12_needs_44 rfl ?_
        refine x_iload_n (pc' := 46) C 1 dX12_needs_45 rfl rfl ?_
        refine x_imul (pc' := 47) C dX12_needs_46 rfl ?_
        refine x_iconst (pc' := 48) C dX12_needs_47 rfl ?_
        refine x_iadd (pc' := 49) C dX12_needs_48 rfl ?_
        refine x_iald (pc' := 50) C (3 * u.toNat + 2) dX12_needs_49 rfl 4 rfl (by omega) (by omega) (by omega) ?_
        refine x_top (b := .int (iI (((σ 12 u.toNat).toNat : Nat) : Int))) (by rw [mI_at (d := 2) (by decide)]; show Value.int (iI (σ 12 u.toNat)) = _; congr 2; omega) ?_
        refine x_iload_n (pc' := 51) C 2 dX12_needs_50 rfl rfl ?_
        refine x_ishr (pc' := 52) (z := (iI (((σ 12 u.toNat).toNat / 2 ^ v.toNat : Nat) : Int))) C dX12_needs_51 rfl (by rw [hv_]; exact bt_shr (by omega) (by omega)) ?_
        refine x_iconst (pc' := 53) C dX12_needs_52 rfl ?_
        refine x_iand (pc' := 54) (z := (iI (bI ((σ 12 u.toNat).toNat.testBit v.toNat = true)))) C dX12_needs_53 rfl (bt_bit) ?_
        refine x_iconst (pc' := 55) C dX12_needs_54 rfl ?_
        refine x_icmp_ne (pc' := 58) (tgt := 62) C dX12_needs_55 rfl (by decide) (bI_rng) (by omega) (fun c55 => ?_) (fun c55 => ?_)
        ·
          replace c55 := bI_n1 c55
          refine x_iconst (pc' := 63) C dX12_needs_62 rfl ?_
          refine x_istore (pc' := 65) (lv' := [(4, .int (iI 0)), (0, .ref (md 0)), (1, .int (iI u)), (2, .int (iI v)), (3, .int (iI z))]) C dX12_needs_63 rfl (by decide) rfl ?_
          refine x_iload (pc' := 67) C 0 dX12_needs_65 rfl rfl ?_
          refine x_iload_n (pc' := 68) C 4 dX12_needs_67 rfl rfl ?_
          refine x_icmp_ne (pc' := 71) (tgt := 74) C dX12_needs_68 rfl (by decide) (by omega) (by omega) (fun c68 => ?_) (fun c68 => ?_)
          ·
            refine x_aload_n (pc' := 75) C 1 dX12_needs_74 rfl rfl ?_
            refine x_get (pc' := 78) C dX12_needs_75 rfl ff_X12_26_11 0 rfl rfl ?_
            refine x_iconst (pc' := 79) C dX12_needs_78 rfl ?_
            refine x_iload_n (pc' := 80) C 2 dX12_needs_79 rfl rfl ?_
            refine x_imul (pc' := 81) C dX12_needs_80 rfl ?_
            refine x_iconst (pc' := 82) C dX12_needs_81 rfl ?_
            refine x_iadd (pc' := 83) C dX12_needs_82 rfl ?_
            refine x_aload_n (pc' := 84) C 1 dX12_needs_83 rfl rfl ?_
            refine x_get (pc' := 87) C dX12_needs_84 rfl ff_X12_26_11 0 rfl rfl ?_
            refine x_iconst (pc' := 88) C dX12_needs_87 rfl ?_
            refine x_iload_n (pc' := 89) C 2 dX12_needs_88 rfl rfl ?_
            refine x_imul (pc' := 90) C dX12_needs_89 rfl ?_
            refine x_iconst (pc' := 91) C dX12_needs_90 rfl ?_
            refine x_iadd (pc' := 92) C dX12_needs_91 rfl ?_
            refine x_iald (pc' := 93) C (3 * u.toNat + 2) dX12_needs_92 rfl 4 rfl (by omega) (by omega) (by omega) ?_
            refine x_top (b := .int (iI (((σ 12 u.toNat).toNat : Nat) : Int))) (by rw [mI_at (d := 2) (by decide)]; show Value.int (iI (σ 12 u.toNat)) = _; congr 2; omega) ?_
            refine x_iconst (pc' := 94) C dX12_needs_93 rfl ?_
            refine x_iload_n (pc' := 95) C 3 dX12_needs_94 rfl rfl ?_
            refine x_ishl (pc' := 96) (z := (iI ((2 ^ v.toNat : Nat) : Int))) C dX12_needs_95 rfl (by rw [hv_]; exact bt_shl (by omega)) ?_
            refine x_ixor (pc' := 97) (z := (iI (((σ 12 u.toNat).toNat ^^^ 2 ^ v.toNat : Nat) : Int))) C dX12_needs_96 rfl (bt_xor _ _) ?_
            refine x_iast (pc' := 98) (ws' := [((md 0), ob 11 [.int (iI (σ 0 0)), .int (iI (k : Int)), .ref (md 1), .int (iI (nl : Int)), .ref (md 2), .ref (md 3), .int (iI (nt : Int)), .int (iI (σ 0 4)), .ref (md 4), .int (iI (nb : Int)), .long (lI (σ 0 6)), .long (lI (σ 0 7)), .ref (md 5), .ref (md 6), .ref (md 7), .ref (md 8), .int (iI (mn : Int)), .ref (md 9), .ref (md 10), .ref (md 11), .int (iI (pm : Int)), .long (lI (μ 0 0)), .long (lI (μ 0 1)), .long (lI (μ 0 2)), .long (lI (μ 0 3))]), ((md 1), ia E 56 (mI 1 4 σ)), ((md 2), ia E 32 (mI 5 2 σ)), ((md 3), ia E 24 (mI 7 3 σ)), ((md 4), ia E 24 (va_up (mI 10 3 σ) (3 * u.toNat + 2) (((σ 12 u.toNat).toNat ^^^ 2 ^ v.toNat : Nat) : Int)))]) C (3 * u.toNat + 2) dX12_needs_97 rfl 4 rfl (by omega) (by omega) (by omega) rfl ?_
            refine x_iconst (pc' := 99) C dX12_needs_98 rfl ?_
            refine x_ws (ws' := [((md 0), ob 11 [.int (iI ((ap σ 12 u.toNat (((σ 12 u.toNat).toNat ^^^ 2 ^ v.toNat : Nat) : Int)) 0 0)), .int (iI (k : Int)), .ref (md 1), .int (iI (nl : Int)), .ref (md 2), .ref (md 3), .int (iI (nt : Int)), .int (iI ((ap σ 12 u.toNat (((σ 12 u.toNat).toNat ^^^ 2 ^ v.toNat : Nat) : Int)) 0 4)), .ref (md 4), .int (iI (nb : Int)), .long (lI ((ap σ 12 u.toNat (((σ 12 u.toNat).toNat ^^^ 2 ^ v.toNat : Nat) : Int)) 0 6)), .long (lI ((ap σ 12 u.toNat (((σ 12 u.toNat).toNat ^^^ 2 ^ v.toNat : Nat) : Int)) 0 7)), .ref (md 5), .ref (md 6), .ref (md 7), .ref (md 8), .int (iI (mn : Int)), .ref (md 9), .ref (md 10), .ref (md 11), .int (iI (pm : Int)), .long (lI (μ 0 0)), .long (lI (μ 0 1)), .long (lI (μ 0 2)), .long (lI (μ 0 3))]), ((md 1), ia E 56 (mI 1 4 (ap σ 12 u.toNat (((σ 12 u.toNat).toNat ^^^ 2 ^ v.toNat : Nat) : Int)))), ((md 2), ia E 32 (mI 5 2 (ap σ 12 u.toNat (((σ 12 u.toNat).toNat ^^^ 2 ^ v.toNat : Nat) : Int)))), ((md 3), ia E 24 (mI 7 3 (ap σ 12 u.toNat (((σ 12 u.toNat).toNat ^^^ 2 ^ v.toNat : Nat) : Int)))), ((md 4), ia E 24 (mI 10 3 (ap σ 12 u.toNat (((σ 12 u.toNat).toNat ^^^ 2 ^ v.toNat : Nat) : Int))))]) (by simp only [mI_apO (r := 1) (w := 4) (q := 12) (by decide) (by decide), mI_apO (r := 5) (w := 2) (q := 12) (by decide) (by decide), mI_apO (r := 7) (w := 3) (q := 12) (by decide) (by decide), mI_ap (r := 10) (w := 3) (d := 2) (by decide)] <;> rfl) ?_
            exact x_iret C hr dX12_needs_99 ⟨1, (ap σ 12 u.toNat (((σ 12 u.toNat).toNat ^^^ 2 ^ v.toNat : Nat) : Int)), rfl, rfl, (show (1, (ap σ 12 u.toNat (((σ 12 u.toNat).toNat ^^^ 2 ^ v.toNat : Nat) : Int))) = sp_needs nb σ u v z from by unfold sp_needs; first | rw [if_pos (by omega), if_neg (by rw [bI_t c55]; omega)] | rw [if_pos (by omega), if_neg (by rw [bI_f c55]; omega)])⟩
          ·
            refine x_bipush (pc' := 73) C dX12_needs_71 rfl rfl ?_
            exact x_iret C hr dX12_needs_73 ⟨(-3), σ, rfl, rfl, (show ((-3), σ) = sp_needs nb σ u v z from by unfold sp_needs; first | rw [if_pos (by omega), if_pos (by rw [bI_t c55]; omega)] | rw [if_pos (by omega), if_pos (by rw [bI_f c55]; omega)])⟩
        ·
          replace c55 := bI_1 c55
          refine x_iconst (pc' := 59) C dX12_needs_58 rfl ?_
          refine x_goto (tgt := 63) C dX12_needs_59 (by decide) ?_
          refine x_istore (pc' := 65) (lv' := [(4, .int (iI 1)), (0, .ref (md 0)), (1, .int (iI u)), (2, .int (iI v)), (3, .int (iI z))]) C dX12_needs_63 rfl (by decide) rfl ?_
          refine x_iload (pc' := 67) C 0 dX12_needs_65 rfl rfl ?_
          refine x_iload_n (pc' := 68) C 4 dX12_needs_67 rfl rfl ?_
          refine x_icmp_ne (pc' := 71) (tgt := 74) C dX12_needs_68 rfl (by decide) (by omega) (by omega) (fun c68 => ?_) (fun c68 => ?_)
          ·
            refine x_aload_n (pc' := 75) C 1 dX12_needs_74 rfl rfl ?_
            refine x_get (pc' := 78) C dX12_needs_75 rfl ff_X12_26_11 0 rfl rfl ?_
            refine x_iconst (pc' := 79) C dX12_needs_78 rfl ?_
            refine x_iload_n (pc' := 80) C 2 dX12_needs_79 rfl rfl ?_
            refine x_imul (pc' := 81) C dX12_needs_80 rfl ?_
            refine x_iconst (pc' := 82) C dX12_needs_81 rfl ?_
            refine x_iadd (pc' := 83) C dX12_needs_82 rfl ?_
            refine x_aload_n (pc' := 84) C 1 dX12_needs_83 rfl rfl ?_
            refine x_get (pc' := 87) C dX12_needs_84 rfl ff_X12_26_11 0 rfl rfl ?_
            refine x_iconst (pc' := 88) C dX12_needs_87 rfl ?_
            refine x_iload_n (pc' := 89) C 2 dX12_needs_88 rfl rfl ?_
            refine x_imul (pc' := 90) C dX12_needs_89 rfl ?_
            refine x_iconst (pc' := 91) C dX12_needs_90 rfl ?_
            refine x_iadd (pc' := 92) C dX12_needs_91 rfl ?_
            refine x_iald (pc' := 93) C (3 * u.toNat + 2) dX12_needs_92 rfl 4 rfl (by omega) (by omega) (by omega) ?_
            refine x_top (b := .int (iI (((σ 12 u.toNat).toNat : Nat) : Int))) (by rw [mI_at (d := 2) (by decide)]; show Value.int (iI (σ 12 u.toNat)) = _; congr 2; omega) ?_
            refine x_iconst (pc' := 94) C dX12_needs_93 rfl ?_
            refine x_iload_n (pc' := 95) C 3 dX12_needs_94 rfl rfl ?_
            refine x_ishl (pc' := 96) (z := (iI ((2 ^ v.toNat : Nat) : Int))) C dX12_needs_95 rfl (by rw [hv_]; exact bt_shl (by omega)) ?_
            refine x_ixor (pc' := 97) (z := (iI (((σ 12 u.toNat).toNat ^^^ 2 ^ v.toNat : Nat) : Int))) C dX12_needs_96 rfl (bt_xor _ _) ?_
            refine x_iast (pc' := 98) (ws' := [((md 0), ob 11 [.int (iI (σ 0 0)), .int (iI (k : Int)), .ref (md 1), .int (iI (nl : Int)), .ref (md 2), .ref (md 3), .int (iI (nt : Int)), .int (iI (σ 0 4)), .ref (md 4), .int (iI (nb : Int)), .long (lI (σ 0 6)), .long (lI (σ 0 7)), .ref (md 5), .ref (md 6), .ref (md 7), .ref (md 8), .int (iI (mn : Int)), .ref (md 9), .ref (md 10), .ref (md 11), .int (iI (pm : Int)), .long (lI (μ 0 0)), .long (lI (μ 0 1)), .long (lI (μ 0 2)), .long (lI (μ 0 3))]), ((md 1), ia E 56 (mI 1 4 σ)), ((md 2), ia E 32 (mI 5 2 σ)), ((md 3), ia E 24 (mI 7 3 σ)), ((md 4), ia E 24 (va_up (mI 10 3 σ) (3 * u.toNat + 2) (((σ 12 u.toNat).toNat ^^^ 2 ^ v.toNat : Nat) : Int)))]) C (3 * u.toNat + 2) dX12_needs_97 rfl 4 rfl (by omega) (by omega) (by omega) rfl ?_
            refine x_iconst (pc' := 99) C dX12_needs_98 rfl ?_
            refine x_ws (ws' := [((md 0), ob 11 [.int (iI ((ap σ 12 u.toNat (((σ 12 u.toNat).toNat ^^^ 2 ^ v.toNat : Nat) : Int)) 0 0)), .int (iI (k : Int)), .ref (md 1), .int (iI (nl : Int)), .ref (md 2), .ref (md 3), .int (iI (nt : Int)), .int (iI ((ap σ 12 u.toNat (((σ 12 u.toNat).toNat ^^^ 2 ^ v.toNat : Nat) : Int)) 0 4)), .ref (md 4), .int (iI (nb : Int)), .long (lI ((ap σ 12 u.toNat (((σ 12 u.toNat).toNat ^^^ 2 ^ v.toNat : Nat) : Int)) 0 6)), .long (lI ((ap σ 12 u.toNat (((σ 12 u.toNat).toNat ^^^ 2 ^ v.toNat : Nat) : Int)) 0 7)), .ref (md 5), .ref (md 6), .ref (md 7), .ref (md 8), .int (iI (mn : Int)), .ref (md 9), .ref (md 10), .ref (md 11), .int (iI (pm : Int)), .long (lI (μ 0 0)), .long (lI (μ 0 1)), .long (lI (μ 0 2)), .long (lI (μ 0 3))]), ((md 1), ia E 56 (mI 1 4 (ap σ 12 u.toNat (((σ 12 u.toNat).toNat ^^^ 2 ^ v.toNat : Nat) : Int)))), ((md 2), ia E 32 (mI 5 2 (ap σ 12 u.toNat (((σ 12 u.toNat).toNat ^^^ 2 ^ v.toNat : Nat) : Int)))), ((md 3), ia E 24 (mI 7 3 (ap σ 12 u.toNat (((σ 12 u.toNat).toNat ^^^ 2 ^ v.toNat : Nat) : Int)))), ((md 4), ia E 24 (mI 10 3 (ap σ 12 u.toNat (((σ 12 u.toNat).toNat ^^^ 2 ^ v.toNat : Nat) : Int))))]) (by simp only [mI_apO (r := 1) (w := 4) (q := 12) (by decide) (by decide), mI_apO (r := 5) (w := 2) (q := 12) (by decide) (by decide), mI_apO (r := 7) (w := 3) (q := 12) (by decide) (by decide), mI_ap (r := 10) (w := 3) (d := 2) (by decide)] <;> rfl) ?_
            exact x_iret C hr dX12_needs_99 ⟨1, (ap σ 12 u.toNat (((σ 12 u.toNat).toNat ^^^ 2 ^ v.toNat : Nat) : Int)), rfl, rfl, (show (1, (ap σ 12 u.toNat (((σ 12 u.toNat).toNat ^^^ 2 ^ v.toNat : Nat) : Int))) = sp_needs nb σ u v z from by unfold sp_needs; first | rw [if_pos (by omega), if_neg (by rw [bI_t c55]; omega)] | rw [if_pos (by omega), if_neg (by rw [bI_f c55]; omega)])⟩
          ·
            refine x_bipush (pc' := 73) C dX12_needs_71 rfl rfl ?_
            exact x_iret C hr dX12_needs_73 ⟨(-3), σ, rfl, rfl, (show ((-3), σ) = sp_needs nb σ u v z from by unfold sp_needs; first | rw [if_pos (by omega), if_pos (by rw [bI_t c55]; omega)] | rw [if_pos (by omega), if_pos (by rw [bI_f c55]; omega)])⟩
      ·
        refine x_bipush (pc' := 39) C dX12_needs_37 rfl rfl ?_
        exact x_iret C hr dX12_needs_39 ⟨(-2), σ, rfl, rfl, (show ((-2), σ) = sp_needs nb σ u v z from by unfold sp_needs; rw [if_neg (by omega)])⟩

set_option maxHeartbeats 4000000 in
set_option maxRecDepth 100000 in
theorem c_X12_parts (l : Launch) (E : EV) (md : Nat → Nat) (k : Nat) (nl : Nat) (nt : Nat) (nb : Nat) (σ : AS) (mn : Nat) (pm : Nat) (μ : AS) (hk : k < 5) (hnl : nl ≤ 14) (hnt : nt ≤ 8) (hnb : nb ≤ 8) : MC l E yX12_parts cX12_parts 1 (some .int) ({ frames := 0, cells := 0, slots := 0, locals := 0 }) [.ref (md 0)] [((md 0), ob 11 [.int (iI (σ 0 0)), .int (iI (k : Int)), .ref (md 1), .int (iI (nl : Int)), .ref (md 2), .ref (md 3), .int (iI (nt : Int)), .int (iI (σ 0 4)), .ref (md 4), .int (iI (nb : Int)), .long (lI (σ 0 6)), .long (lI (σ 0 7)), .ref (md 5), .ref (md 6), .ref (md 7), .ref (md 8), .int (iI (mn : Int)), .ref (md 9), .ref (md 10), .ref (md 11), .int (iI (pm : Int)), .long (lI (μ 0 0)), .long (lI (μ 0 1)), .long (lI (μ 0 2)), .long (lI (μ 0 3))])] (fun v_ w_ => v_ = some (.int (iI ((npF k nl nt nb : Nat) : Int))) ∧ w_ = [((md 0), ob 11 [.int (iI (σ 0 0)), .int (iI (k : Int)), .ref (md 1), .int (iI (nl : Int)), .ref (md 2), .ref (md 3), .int (iI (nt : Int)), .int (iI (σ 0 4)), .ref (md 4), .int (iI (nb : Int)), .long (lI (σ 0 6)), .long (lI (σ 0 7)), .ref (md 5), .ref (md 6), .ref (md 7), .ref (md 8), .int (iI (mn : Int)), .ref (md 9), .ref (md 10), .ref (md 11), .int (iI (pm : Int)), .long (lI (μ 0 0)), .long (lI (μ 0 1)), .long (lI (μ 0 2)), .long (lI (μ 0 3))])]) := by
  refine MC.of (by decide +kernel) (Nat.le_of_ble_eq_true rfl) ?_
  intro p_ e_ s_ m_ args_ below_ meth_ c_ A_ C hr hnm
  have C : Cx p_ s_ m_ args_ meth_ c_ E A_ 1 cX12_parts RX12 := C
  show Wx _ _ _ _ _ _ _ _ _ _ _ _ _ _ _ _ 0 [(0, .ref (md 0))] [] [((md 0), ob 11 [.int (iI (σ 0 0)), .int (iI (k : Int)), .ref (md 1), .int (iI (nl : Int)), .ref (md 2), .ref (md 3), .int (iI (nt : Int)), .int (iI (σ 0 4)), .ref (md 4), .int (iI (nb : Int)), .long (lI (σ 0 6)), .long (lI (σ 0 7)), .ref (md 5), .ref (md 6), .ref (md 7), .ref (md 8), .int (iI (mn : Int)), .ref (md 9), .ref (md 10), .ref (md 11), .int (iI (pm : Int)), .long (lI (μ 0 0)), .long (lI (μ 0 1)), .long (lI (μ 0 2)), .long (lI (μ 0 3))])]
  refine x_aload_n (pc' := 1) C 0 dX12_parts_0 rfl rfl ?_
  refine x_get (pc' := 4) C dX12_parts_1 rfl ff_X12_65_11 0 rfl rfl ?_
  refine x_iconst (pc' := 5) C dX12_parts_4 rfl ?_
  refine x_icmp_ge (pc' := 8) (tgt := 15) C dX12_parts_5 rfl (by decide) (by omega) (by omega) (fun c5 => ?_) (fun c5 => ?_)
  ·
    refine x_aload_n (pc' := 16) C 0 dX12_parts_15 rfl rfl ?_
    refine x_get (pc' := 19) C dX12_parts_16 rfl ff_X12_65_11 0 rfl rfl ?_
    refine x_iconst (pc' := 20) C dX12_parts_19 rfl ?_
    refine x_icmp_ne (pc' := 23) (tgt := 28) C dX12_parts_20 rfl (by decide) (by omega) (by omega) (fun c20 => ?_) (fun c20 => ?_)
    ·
      refine x_aload_n (pc' := 29) C 0 dX12_parts_28 rfl rfl ?_
      refine x_get (pc' := 32) C dX12_parts_29 rfl ff_X12_65_11 0 rfl rfl ?_
      refine x_iconst (pc' := 33) C dX12_parts_32 rfl ?_
      refine x_icmp_ne (pc' := 36) (tgt := 43) C dX12_parts_33 rfl (by decide) (by omega) (by omega) (fun c33 => ?_) (fun c33 => ?_)
      ·
        refine x_aload_n (pc' := 44) C 0 dX12_parts_43 rfl rfl ?_
        refine x_get (pc' := 47) C dX12_parts_44 rfl ff_X12_86_11 0 rfl rfl ?_
        refine x_top (b := .int (iI ((npF k nl nt nb : Nat) : Int))) (by first | rw [npF_0 (by omega)] | (rw [npF_2 (by omega)] <;> rfl) | rw [npF_3 (by omega)] | rw [npF_4 (by omega)]) ?_
        exact x_iret C hr dX12_parts_47 ⟨rfl, rfl⟩
      ·
        refine x_aload_n (pc' := 37) C 0 dX12_parts_36 rfl rfl ?_
        refine x_get (pc' := 40) C dX12_parts_37 rfl ff_X12_81_11 0 rfl rfl ?_
        refine x_goto (tgt := 47) C dX12_parts_40 (by decide) ?_
        refine x_top (b := .int (iI ((npF k nl nt nb : Nat) : Int))) (by first | rw [npF_0 (by omega)] | (rw [npF_2 (by omega)] <;> rfl) | rw [npF_3 (by omega)] | rw [npF_4 (by omega)]) ?_
        exact x_iret C hr dX12_parts_47 ⟨rfl, rfl⟩
    ·
      refine x_bipush (pc' := 25) C dX12_parts_23 rfl rfl ?_
      refine x_goto (tgt := 47) C dX12_parts_25 (by decide) ?_
      refine x_top (b := .int (iI ((npF k nl nt nb : Nat) : Int))) (by first | rw [npF_0 (by omega)] | (rw [npF_2 (by omega)] <;> rfl) | rw [npF_3 (by omega)] | rw [npF_4 (by omega)]) ?_
      exact x_iret C hr dX12_parts_47 ⟨rfl, rfl⟩
  ·
    refine x_aload_n (pc' := 9) C 0 dX12_parts_8 rfl rfl ?_
    refine x_get (pc' := 12) C dX12_parts_9 rfl ff_X12_74_11 0 rfl rfl ?_
    refine x_goto (tgt := 47) C dX12_parts_12 (by decide) ?_
    refine x_top (b := .int (iI ((npF k nl nt nb : Nat) : Int))) (by first | rw [npF_0 (by omega)] | (rw [npF_2 (by omega)] <;> rfl) | rw [npF_3 (by omega)] | rw [npF_4 (by omega)]) ?_
    exact x_iret C hr dX12_parts_47 ⟨rfl, rfl⟩

set_option maxHeartbeats 4000000 in
set_option maxRecDepth 100000 in
theorem c_X12_put (l : Launch) (E : EV) (md : Nat → Nat) (k : Nat) (nl : Nat) (nt : Nat) (nb : Nat) (σ : AS) (mn : Nat) (pm : Nat) (μ : AS) (u : Int) (x : Int) (y : Int) (r_u : -2147483648 ≤ u ∧ u < 2147483648) (r_x : -2147483648 ≤ x ∧ x < 2147483648) (r_y : -2147483648 ≤ y ∧ y < 2147483648) (hk : k < 5) (hnl : nl ≤ 14) (hnt : nt ≤ 8) (hnb : nb ≤ 8) : MC l E yX12_put cX12_put 4 (some .int) ({ frames := 2, cells := 0, slots := 0, locals := 46 }) [.ref (md 0), .int (iI u), .int (iI x), .int (iI y)] [((md 0), ob 11 [.int (iI (σ 0 0)), .int (iI (k : Int)), .ref (md 1), .int (iI (nl : Int)), .ref (md 2), .ref (md 3), .int (iI (nt : Int)), .int (iI (σ 0 4)), .ref (md 4), .int (iI (nb : Int)), .long (lI (σ 0 6)), .long (lI (σ 0 7)), .ref (md 5), .ref (md 6), .ref (md 7), .ref (md 8), .int (iI (mn : Int)), .ref (md 9), .ref (md 10), .ref (md 11), .int (iI (pm : Int)), .long (lI (μ 0 0)), .long (lI (μ 0 1)), .long (lI (μ 0 2)), .long (lI (μ 0 3))]), ((md 1), ia E 56 (mI 1 4 σ)), ((md 2), ia E 32 (mI 5 2 σ)), ((md 3), ia E 24 (mI 7 3 σ)), ((md 4), ia E 24 (mI 10 3 σ))] (fun v_ w_ => ∃ (r : Int) (σ2 : AS), v_ = some (.int (iI r)) ∧ w_ = [((md 0), ob 11 [.int (iI (σ2 0 0)), .int (iI (k : Int)), .ref (md 1), .int (iI (nl : Int)), .ref (md 2), .ref (md 3), .int (iI (nt : Int)), .int (iI (σ2 0 4)), .ref (md 4), .int (iI (nb : Int)), .long (lI (σ2 0 6)), .long (lI (σ2 0 7)), .ref (md 5), .ref (md 6), .ref (md 7), .ref (md 8), .int (iI (mn : Int)), .ref (md 9), .ref (md 10), .ref (md 11), .int (iI (pm : Int)), .long (lI (μ 0 0)), .long (lI (μ 0 1)), .long (lI (μ 0 2)), .long (lI (μ 0 3))]), ((md 1), ia E 56 (mI 1 4 σ2)), ((md 2), ia E 32 (mI 5 2 σ2)), ((md 3), ia E 24 (mI 7 3 σ2)), ((md 4), ia E 24 (mI 10 3 σ2))] ∧ ((r, σ2) = sp_put k nl nt nb σ u x y)) := by
  refine MC.of (by decide +kernel) (Nat.le_of_ble_eq_true rfl) ?_
  intro p_ e_ s_ m_ args_ below_ meth_ c_ A_ C hr hnm
  have C : Cx p_ s_ m_ args_ meth_ c_ E A_ 4 cX12_put RX12 := C
  have hnp := npF_le (k := k) hnl hnt hnb
  show Wx _ _ _ _ _ _ _ _ _ _ _ _ _ _ _ _ 0 [(0, .ref (md 0)), (1, .int (iI u)), (2, .int (iI x)), (3, .int (iI y))] [] [((md 0), ob 11 [.int (iI (σ 0 0)), .int (iI (k : Int)), .ref (md 1), .int (iI (nl : Int)), .ref (md 2), .ref (md 3), .int (iI (nt : Int)), .int (iI (σ 0 4)), .ref (md 4), .int (iI (nb : Int)), .long (lI (σ 0 6)), .long (lI (σ 0 7)), .ref (md 5), .ref (md 6), .ref (md 7), .ref (md 8), .int (iI (mn : Int)), .ref (md 9), .ref (md 10), .ref (md 11), .int (iI (pm : Int)), .long (lI (μ 0 0)), .long (lI (μ 0 1)), .long (lI (μ 0 2)), .long (lI (μ 0 3))]), ((md 1), ia E 56 (mI 1 4 σ)), ((md 2), ia E 32 (mI 5 2 σ)), ((md 3), ia E 24 (mI 7 3 σ)), ((md 4), ia E 24 (mI 10 3 σ))]
  refine x_iload_n (pc' := 1) C 1 dX12_put_0 rfl rfl ?_
  refine x_i2l (pc' := 2) C dX12_put_1 rfl (by omega) ?_
  refine x_lconst (pc' := 3) (z := 0) C dX12_put_2 rfl rfl ?_
  refine x_aload_n (pc' := 4) C 0 dX12_put_3 rfl rfl ?_
  refine x_callV (pc' := 7) (As := []) (rest := [.long (lI 0), .long (lI u)]) (q0 := 0) C rfl rfl cv_X12_89_X12 dX12_put_4 rfl (c_X12_parts l E md k nl nt nb σ mn pm μ (show k < 5 from by omega) (show nl ≤ 14 from by omega) (show nt ≤ 8 from by omega) (show nb ≤ 8 from by omega)) mm_X12_parts (hstk := rfl) (hlen := rfl) (hcat := Nat.le_of_ble_eq_true rfl) (isC := [0]) (isR := [1, 2, 3, 4]) (wr := [((md 1), ia E 56 (mI 1 4 σ)), ((md 2), ia E 32 (mI 5 2 σ)), ((md 3), ia E 24 (mI 7 3 σ)), ((md 4), ia E 24 (mI 10 3 σ))]) (hC := rfl) (hR := rfl) (hnC := rfl) (hn := rfl) (hdis := by decide) (hR1 := ⟨Nat.le_of_ble_eq_true rfl, Nat.le_of_ble_eq_true rfl⟩) (hcs := ⟨Nat.le_of_ble_eq_true rfl, Nat.le_of_ble_eq_true rfl⟩) (fun v_ w_ hp_ => ?_)
  obtain ⟨rfl, rfl⟩ := hp_
  show Wx _ _ _ _ _ _ _ _ _ _ _ _ _ _ _ _ 7 [(0, .ref (md 0)), (1, .int (iI u)), (2, .int (iI x)), (3, .int (iI y))] [.int (iI ((npF k nl nt nb : Nat) : Int)), .long (lI 0), .long (lI u)] [((md 1), ia E 56 (mI 1 4 σ)), ((md 2), ia E 32 (mI 5 2 σ)), ((md 3), ia E 24 (mI 7 3 σ)), ((md 4), ia E 24 (mI 10 3 σ)), ((md 0), ob 11 [.int (iI (σ 0 0)), .int (iI (k : Int)), .ref (md 1), .int (iI (nl : Int)), .ref (md 2), .ref (md 3), .int (iI (nt : Int)), .int (iI (σ 0 4)), .ref (md 4), .int (iI (nb : Int)), .long (lI (σ 0 6)), .long (lI (σ 0 7)), .ref (md 5), .ref (md 6), .ref (md 7), .ref (md 8), .int (iI (mn : Int)), .ref (md 9), .ref (md 10), .ref (md 11), .int (iI (pm : Int)), .long (lI (μ 0 0)), .long (lI (μ 0 1)), .long (lI (μ 0 2)), .long (lI (μ 0 3))])]
  refine x_sub (ws' := [((md 0), ob 11 [.int (iI (σ 0 0)), .int (iI (k : Int)), .ref (md 1), .int (iI (nl : Int)), .ref (md 2), .ref (md 3), .int (iI (nt : Int)), .int (iI (σ 0 4)), .ref (md 4), .int (iI (nb : Int)), .long (lI (σ 0 6)), .long (lI (σ 0 7)), .ref (md 5), .ref (md 6), .ref (md 7), .ref (md 8), .int (iI (mn : Int)), .ref (md 9), .ref (md 10), .ref (md 11), .int (iI (pm : Int)), .long (lI (μ 0 0)), .long (lI (μ 0 1)), .long (lI (μ 0 2)), .long (lI (μ 0 3))]), ((md 1), ia E 56 (mI 1 4 σ)), ((md 2), ia E 32 (mI 5 2 σ)), ((md 3), ia E 24 (mI 7 3 σ)), ((md 4), ia E 24 (mI 10 3 σ))]) [4, 0, 1, 2, 3] rfl rfl ?_
  refine x_iconst (pc' := 8) C dX12_put_7 rfl ?_
  refine x_isub (pc' := 9) C dX12_put_8 rfl ?_
  refine x_i2l (pc' := 10) C dX12_put_9 rfl (by omega) ?_
  refine x_callS (pc' := 13) (As := [.long (lI u), .long (lI 0), .long (lI (((npF k nl nt nb : Nat) : Int) - 1))]) (rest := []) C cs_X12_59 dX12_put_10 rfl (c_X12_in l E u 0 (((npF k nl nt nb : Nat) : Int) - 1) (show -9223372036854775808 ≤ u ∧ u < 9223372036854775808 from by omega) (show -9223372036854775808 ≤ 0 ∧ 0 < 9223372036854775808 from by omega) (show -9223372036854775808 ≤ (((npF k nl nt nb : Nat) : Int) - 1) ∧ (((npF k nl nt nb : Nat) : Int) - 1) < 9223372036854775808 from by omega)) mm_X12_in (hstk := rfl) (hlen := rfl) (hcat := Nat.le_of_ble_eq_true rfl) (isC := []) (isR := [0, 1, 2, 3, 4]) (wr := [((md 0), ob 11 [.int (iI (σ 0 0)), .int (iI (k : Int)), .ref (md 1), .int (iI (nl : Int)), .ref (md 2), .ref (md 3), .int (iI (nt : Int)), .int (iI (σ 0 4)), .ref (md 4), .int (iI (nb : Int)), .long (lI (σ 0 6)), .long (lI (σ 0 7)), .ref (md 5), .ref (md 6), .ref (md 7), .ref (md 8), .int (iI (mn : Int)), .ref (md 9), .ref (md 10), .ref (md 11), .int (iI (pm : Int)), .long (lI (μ 0 0)), .long (lI (μ 0 1)), .long (lI (μ 0 2)), .long (lI (μ 0 3))]), ((md 1), ia E 56 (mI 1 4 σ)), ((md 2), ia E 32 (mI 5 2 σ)), ((md 3), ia E 24 (mI 7 3 σ)), ((md 4), ia E 24 (mI 10 3 σ))]) (hC := rfl) (hR := rfl) (hnC := rfl) (hn := rfl) (hdis := by decide) (hR1 := ⟨Nat.le_of_ble_eq_true rfl, Nat.le_of_ble_eq_true rfl⟩) (hcs := ⟨Nat.le_of_ble_eq_true rfl, Nat.le_of_ble_eq_true rfl⟩) (fun v_ w_ hp_ => ?_)
  obtain ⟨rfl, rfl⟩ := hp_
  show Wx _ _ _ _ _ _ _ _ _ _ _ _ _ _ _ _ 13 [(0, .ref (md 0)), (1, .int (iI u)), (2, .int (iI x)), (3, .int (iI y))] [.int (iI (bI (0 ≤ u ∧ u ≤ (((npF k nl nt nb : Nat) : Int) - 1))))] [((md 0), ob 11 [.int (iI (σ 0 0)), .int (iI (k : Int)), .ref (md 1), .int (iI (nl : Int)), .ref (md 2), .ref (md 3), .int (iI (nt : Int)), .int (iI (σ 0 4)), .ref (md 4), .int (iI (nb : Int)), .long (lI (σ 0 6)), .long (lI (σ 0 7)), .ref (md 5), .ref (md 6), .ref (md 7), .ref (md 8), .int (iI (mn : Int)), .ref (md 9), .ref (md 10), .ref (md 11), .int (iI (pm : Int)), .long (lI (μ 0 0)), .long (lI (μ 0 1)), .long (lI (μ 0 2)), .long (lI (μ 0 3))]), ((md 1), ia E 56 (mI 1 4 σ)), ((md 2), ia E 32 (mI 5 2 σ)), ((md 3), ia E 24 (mI 7 3 σ)), ((md 4), ia E 24 (mI 10 3 σ))]
  refine x_if_eq (pc' := 16) (tgt := 24) C dX12_put_13 rfl (by decide) (bI_rng) (fun c13 => ?_) (fun c13 => ?_)
  ·
    replace c13 := bI_z c13
    refine x_bipush (pc' := 26) C dX12_put_24 rfl rfl ?_
    exact x_iret C hr dX12_put_26 ⟨(-2), σ, rfl, rfl, (show ((-2), σ) = sp_put k nl nt nb σ u x y from by unfold sp_put; rw [if_neg (by omega)])⟩
  ·
    replace c13 := bI_nz c13
    refine x_iload_n (pc' := 17) C 2 dX12_put_16 rfl rfl ?_
    refine x_iload_n (pc' := 18) C 3 dX12_put_17 rfl rfl ?_
    refine x_callS (pc' := 21) (As := [.int (iI x), .int (iI y)]) (rest := []) C cs_X12_70 dX12_put_18 rfl (c_X12_isLine l E x y (show -2147483648 ≤ x ∧ x < 2147483648 from by omega) (show -2147483648 ≤ y ∧ y < 2147483648 from by omega)) mm_X12_isLine (hstk := rfl) (hlen := rfl) (hcat := Nat.le_of_ble_eq_true rfl) (isC := []) (isR := [0, 1, 2, 3, 4]) (wr := [((md 0), ob 11 [.int (iI (σ 0 0)), .int (iI (k : Int)), .ref (md 1), .int (iI (nl : Int)), .ref (md 2), .ref (md 3), .int (iI (nt : Int)), .int (iI (σ 0 4)), .ref (md 4), .int (iI (nb : Int)), .long (lI (σ 0 6)), .long (lI (σ 0 7)), .ref (md 5), .ref (md 6), .ref (md 7), .ref (md 8), .int (iI (mn : Int)), .ref (md 9), .ref (md 10), .ref (md 11), .int (iI (pm : Int)), .long (lI (μ 0 0)), .long (lI (μ 0 1)), .long (lI (μ 0 2)), .long (lI (μ 0 3))]), ((md 1), ia E 56 (mI 1 4 σ)), ((md 2), ia E 32 (mI 5 2 σ)), ((md 3), ia E 24 (mI 7 3 σ)), ((md 4), ia E 24 (mI 10 3 σ))]) (hC := rfl) (hR := rfl) (hnC := rfl) (hn := rfl) (hdis := by decide) (hR1 := ⟨Nat.le_of_ble_eq_true rfl, Nat.le_of_ble_eq_true rfl⟩) (hcs := ⟨Nat.le_of_ble_eq_true rfl, Nat.le_of_ble_eq_true rfl⟩) (fun v_ w_ hp_ => ?_)
    obtain ⟨rfl, rfl⟩ := hp_
    show Wx _ _ _ _ _ _ _ _ _ _ _ _ _ _ _ _ 21 [(0, .ref (md 0)), (1, .int (iI u)), (2, .int (iI x)), (3, .int (iI y))] [.int (iI (bI ((-100 ≤ x ∧ x ≤ 100) ∧ (-100 ≤ y ∧ y ≤ 100))))] [((md 0), ob 11 [.int (iI (σ 0 0)), .int (iI (k : Int)), .ref (md 1), .int (iI (nl : Int)), .ref (md 2), .ref (md 3), .int (iI (nt : Int)), .int (iI (σ 0 4)), .ref (md 4), .int (iI (nb : Int)), .long (lI (σ 0 6)), .long (lI (σ 0 7)), .ref (md 5), .ref (md 6), .ref (md 7), .ref (md 8), .int (iI (mn : Int)), .ref (md 9), .ref (md 10), .ref (md 11), .int (iI (pm : Int)), .long (lI (μ 0 0)), .long (lI (μ 0 1)), .long (lI (μ 0 2)), .long (lI (μ 0 3))]), ((md 1), ia E 56 (mI 1 4 σ)), ((md 2), ia E 32 (mI 5 2 σ)), ((md 3), ia E 24 (mI 7 3 σ)), ((md 4), ia E 24 (mI 10 3 σ))]
    refine x_if_ne (pc' := 24) (tgt := 27) C dX12_put_21 rfl (by decide) (bI_rng) (fun c21 => ?_) (fun c21 => ?_)
    ·
      replace c21 := bI_nz c21
      refine x_aload_n (pc' := 28) C 0 dX12_put_27 rfl rfl ?_
      refine x_get (pc' := 31) C dX12_put_28 rfl ff_X12_65_11 0 rfl rfl ?_
      refine x_iconst (pc' := 32) C dX12_put_31 rfl ?_
      refine x_icmp_ge (pc' := 35) (tgt := 60) C dX12_put_32 rfl (by decide) (by omega) (by omega) (fun c32 => ?_) (fun c32 => ?_)
      ·
        refine x_aload_n (pc' := 61) C 0 dX12_put_60 rfl rfl ?_
        refine x_get (pc' := 64) C dX12_put_61 rfl ff_X12_65_11 0 rfl rfl ?_
        refine x_iconst (pc' := 65) C dX12_put_64 rfl ?_
        refine x_icmp_ne (pc' := 68) (tgt := 91) C dX12_put_65 rfl (by decide) (by omega) (by omega) (fun c65 => ?_) (fun c65 => ?_)
        ·
          refine x_aload_n (pc' := 92) C 0 dX12_put_91 rfl rfl ?_
          refine x_get (pc' := 95) C dX12_put_92 rfl ff_X12_65_11 0 rfl rfl ?_
          refine x_iconst (pc' := 96) C dX12_put_95 rfl ?_
          refine x_icmp_ne (pc' := 99) (tgt := 124) C dX12_put_96 rfl (by decide) (by omega) (by omega) (fun c96 => ?_) (fun c96 => ?_)
          ·
            have hn0 := npF_4 (nl := nl) (nt := nt) (nb := nb) (show 4 ≤ k by omega)
            refine x_aload_n (pc' := 125) C 0 dX12_put_124 rfl rfl ?_
            refine x_get (pc' := 128) C dX12_put_125 rfl ff_X12_26_11 0 rfl rfl ?_
            refine x_iconst (pc' := 129) C dX12_put_128 rfl ?_
            refine x_iload_n (pc' := 130) C 1 dX12_put_129 rfl rfl ?_
            refine x_imul (pc' := 131) C dX12_put_130 rfl ?_
            refine x_iload_n (pc' := 132) C 2 dX12_put_131 rfl rfl ?_
            refine x_iast (pc' := 133) (ws' := [((md 0), ob 11 [.int (iI (σ 0 0)), .int (iI (k : Int)), .ref (md 1), .int (iI (nl : Int)), .ref (md 2), .ref (md 3), .int (iI (nt : Int)), .int (iI (σ 0 4)), .ref (md 4), .int (iI (nb : Int)), .long (lI (σ 0 6)), .long (lI (σ 0 7)), .ref (md 5), .ref (md 6), .ref (md 7), .ref (md 8), .int (iI (mn : Int)), .ref (md 9), .ref (md 10), .ref (md 11), .int (iI (pm : Int)), .long (lI (μ 0 0)), .long (lI (μ 0 1)), .long (lI (μ 0 2)), .long (lI (μ 0 3))]), ((md 1), ia E 56 (mI 1 4 σ)), ((md 2), ia E 32 (mI 5 2 σ)), ((md 3), ia E 24 (mI 7 3 σ)), ((md 4), ia E 24 (va_up (mI 10 3 σ) (3 * u.toNat) x))]) C (3 * u.toNat) dX12_put_132 rfl 4 rfl (by omega) (by omega) (by omega) rfl ?_
            refine x_aload_n (pc' := 134) C 0 dX12_put_133 rfl rfl ?_
            refine x_get (pc' := 137) C dX12_put_134 rfl ff_X12_26_11 0 rfl rfl ?_
            refine x_iconst (pc' := 138) C dX12_put_137 rfl ?_
            refine x_iload_n (pc' := 139) C 1 dX12_put_138 rfl rfl ?_
            refine x_imul (pc' := 140) C dX12_put_139 rfl ?_
            refine x_iconst (pc' := 141) C dX12_put_140 rfl ?_
            refine x_iadd (pc' := 142) C dX12_put_141 rfl ?_
            refine x_iload_n (pc' := 143) C 3 dX12_put_142 rfl rfl ?_
            refine x_iast (pc' := 144) (ws' := [((md 0), ob 11 [.int (iI (σ 0 0)), .int (iI (k : Int)), .ref (md 1), .int (iI (nl : Int)), .ref (md 2), .ref (md 3), .int (iI (nt : Int)), .int (iI (σ 0 4)), .ref (md 4), .int (iI (nb : Int)), .long (lI (σ 0 6)), .long (lI (σ 0 7)), .ref (md 5), .ref (md 6), .ref (md 7), .ref (md 8), .int (iI (mn : Int)), .ref (md 9), .ref (md 10), .ref (md 11), .int (iI (pm : Int)), .long (lI (μ 0 0)), .long (lI (μ 0 1)), .long (lI (μ 0 2)), .long (lI (μ 0 3))]), ((md 1), ia E 56 (mI 1 4 σ)), ((md 2), ia E 32 (mI 5 2 σ)), ((md 3), ia E 24 (mI 7 3 σ)), ((md 4), ia E 24 (va_up (va_up (mI 10 3 σ) (3 * u.toNat) x) (3 * u.toNat + 1) y))]) C (3 * u.toNat + 1) dX12_put_143 rfl 4 rfl (by omega) (by omega) (by omega) rfl ?_
            refine x_iconst (pc' := 145) C dX12_put_144 rfl ?_
            refine x_ws (ws' := [((md 0), ob 11 [.int (iI ((ap (ap σ 10 u.toNat x) 11 u.toNat y) 0 0)), .int (iI (k : Int)), .ref (md 1), .int (iI (nl : Int)), .ref (md 2), .ref (md 3), .int (iI (nt : Int)), .int (iI ((ap (ap σ 10 u.toNat x) 11 u.toNat y) 0 4)), .ref (md 4), .int (iI (nb : Int)), .long (lI ((ap (ap σ 10 u.toNat x) 11 u.toNat y) 0 6)), .long (lI ((ap (ap σ 10 u.toNat x) 11 u.toNat y) 0 7)), .ref (md 5), .ref (md 6), .ref (md 7), .ref (md 8), .int (iI (mn : Int)), .ref (md 9), .ref (md 10), .ref (md 11), .int (iI (pm : Int)), .long (lI (μ 0 0)), .long (lI (μ 0 1)), .long (lI (μ 0 2)), .long (lI (μ 0 3))]), ((md 1), ia E 56 (mI 1 4 (ap (ap σ 10 u.toNat x) 11 u.toNat y))), ((md 2), ia E 32 (mI 5 2 (ap (ap σ 10 u.toNat x) 11 u.toNat y))), ((md 3), ia E 24 (mI 7 3 (ap (ap σ 10 u.toNat x) 11 u.toNat y))), ((md 4), ia E 24 (mI 10 3 (ap (ap σ 10 u.toNat x) 11 u.toNat y)))]) (by simp only [mI_apO (r := 1) (w := 4) (q := 10) (by decide) (by decide), mI_apO (r := 1) (w := 4) (q := 11) (by decide) (by decide), mI_apO (r := 5) (w := 2) (q := 10) (by decide) (by decide), mI_apO (r := 5) (w := 2) (q := 11) (by decide) (by decide), mI_apO (r := 7) (w := 3) (q := 10) (by decide) (by decide), mI_apO (r := 7) (w := 3) (q := 11) (by decide) (by decide), mI_ap0 (r := 10) (w := 3) (by decide), mI_ap (r := 10) (w := 3) (d := 1) (by decide)] <;> rfl) ?_
            exact x_iret C hr dX12_put_145 ⟨1, (ap (ap σ 10 u.toNat x) 11 u.toNat y), rfl, rfl, (show (1, (ap (ap σ 10 u.toNat x) 11 u.toNat y)) = sp_put k nl nt nb σ u x y from by unfold sp_put; rw [rowA_4 (by omega), rowB_4 (by omega), if_pos (by omega)])⟩
          ·
            have hn0 := npF_3 (nl := nl) (nt := nt) (nb := nb) (show k = 3 by omega)
            refine x_aload_n (pc' := 100) C 0 dX12_put_99 rfl rfl ?_
            refine x_get (pc' := 103) C dX12_put_100 rfl ff_X12_20_11 0 rfl rfl ?_
            refine x_iconst (pc' := 104) C dX12_put_103 rfl ?_
            refine x_iload_n (pc' := 105) C 1 dX12_put_104 rfl rfl ?_
            refine x_imul (pc' := 106) C dX12_put_105 rfl ?_
            refine x_iconst (pc' := 107) C dX12_put_106 rfl ?_
            refine x_iadd (pc' := 108) C dX12_put_107 rfl ?_
            refine x_iload_n (pc' := 109) C 2 dX12_put_108 rfl rfl ?_
            refine x_iast (pc' := 110) (ws' := [((md 0), ob 11 [.int (iI (σ 0 0)), .int (iI (k : Int)), .ref (md 1), .int (iI (nl : Int)), .ref (md 2), .ref (md 3), .int (iI (nt : Int)), .int (iI (σ 0 4)), .ref (md 4), .int (iI (nb : Int)), .long (lI (σ 0 6)), .long (lI (σ 0 7)), .ref (md 5), .ref (md 6), .ref (md 7), .ref (md 8), .int (iI (mn : Int)), .ref (md 9), .ref (md 10), .ref (md 11), .int (iI (pm : Int)), .long (lI (μ 0 0)), .long (lI (μ 0 1)), .long (lI (μ 0 2)), .long (lI (μ 0 3))]), ((md 1), ia E 56 (mI 1 4 σ)), ((md 2), ia E 32 (mI 5 2 σ)), ((md 3), ia E 24 (va_up (mI 7 3 σ) (3 * u.toNat + 1) x)), ((md 4), ia E 24 (mI 10 3 σ))]) C (3 * u.toNat + 1) dX12_put_109 rfl 3 rfl (by omega) (by omega) (by omega) rfl ?_
            refine x_aload_n (pc' := 111) C 0 dX12_put_110 rfl rfl ?_
            refine x_get (pc' := 114) C dX12_put_111 rfl ff_X12_20_11 0 rfl rfl ?_
            refine x_iconst (pc' := 115) C dX12_put_114 rfl ?_
            refine x_iload_n (pc' := 116) C 1 dX12_put_115 rfl rfl ?_
            refine x_imul (pc' := 117) C dX12_put_116 rfl ?_
            refine x_iconst (pc' := 118) C dX12_put_117 rfl ?_
            refine x_iadd (pc' := 119) C dX12_put_118 rfl ?_
            refine x_iload_n (pc' := 120) C 3 dX12_put_119 rfl rfl ?_
            refine x_iast (pc' := 121) (ws' := [((md 0), ob 11 [.int (iI (σ 0 0)), .int (iI (k : Int)), .ref (md 1), .int (iI (nl : Int)), .ref (md 2), .ref (md 3), .int (iI (nt : Int)), .int (iI (σ 0 4)), .ref (md 4), .int (iI (nb : Int)), .long (lI (σ 0 6)), .long (lI (σ 0 7)), .ref (md 5), .ref (md 6), .ref (md 7), .ref (md 8), .int (iI (mn : Int)), .ref (md 9), .ref (md 10), .ref (md 11), .int (iI (pm : Int)), .long (lI (μ 0 0)), .long (lI (μ 0 1)), .long (lI (μ 0 2)), .long (lI (μ 0 3))]), ((md 1), ia E 56 (mI 1 4 σ)), ((md 2), ia E 32 (mI 5 2 σ)), ((md 3), ia E 24 (va_up (va_up (mI 7 3 σ) (3 * u.toNat + 1) x) (3 * u.toNat + 2) y)), ((md 4), ia E 24 (mI 10 3 σ))]) C (3 * u.toNat + 2) dX12_put_120 rfl 3 rfl (by omega) (by omega) (by omega) rfl ?_
            refine x_goto (tgt := 144) C dX12_put_121 (by decide) ?_
            refine x_iconst (pc' := 145) C dX12_put_144 rfl ?_
            refine x_ws (ws' := [((md 0), ob 11 [.int (iI ((ap (ap σ 8 u.toNat x) 9 u.toNat y) 0 0)), .int (iI (k : Int)), .ref (md 1), .int (iI (nl : Int)), .ref (md 2), .ref (md 3), .int (iI (nt : Int)), .int (iI ((ap (ap σ 8 u.toNat x) 9 u.toNat y) 0 4)), .ref (md 4), .int (iI (nb : Int)), .long (lI ((ap (ap σ 8 u.toNat x) 9 u.toNat y) 0 6)), .long (lI ((ap (ap σ 8 u.toNat x) 9 u.toNat y) 0 7)), .ref (md 5), .ref (md 6), .ref (md 7), .ref (md 8), .int (iI (mn : Int)), .ref (md 9), .ref (md 10), .ref (md 11), .int (iI (pm : Int)), .long (lI (μ 0 0)), .long (lI (μ 0 1)), .long (lI (μ 0 2)), .long (lI (μ 0 3))]), ((md 1), ia E 56 (mI 1 4 (ap (ap σ 8 u.toNat x) 9 u.toNat y))), ((md 2), ia E 32 (mI 5 2 (ap (ap σ 8 u.toNat x) 9 u.toNat y))), ((md 3), ia E 24 (mI 7 3 (ap (ap σ 8 u.toNat x) 9 u.toNat y))), ((md 4), ia E 24 (mI 10 3 (ap (ap σ 8 u.toNat x) 9 u.toNat y)))]) (by simp only [mI_apO (r := 1) (w := 4) (q := 8) (by decide) (by decide), mI_apO (r := 1) (w := 4) (q := 9) (by decide) (by decide), mI_apO (r := 5) (w := 2) (q := 8) (by decide) (by decide), mI_apO (r := 5) (w := 2) (q := 9) (by decide) (by decide), mI_ap (r := 7) (w := 3) (d := 1) (by decide), mI_ap (r := 7) (w := 3) (d := 2) (by decide), mI_apO (r := 10) (w := 3) (q := 8) (by decide) (by decide), mI_apO (r := 10) (w := 3) (q := 9) (by decide) (by decide)] <;> rfl) ?_
            exact x_iret C hr dX12_put_145 ⟨1, (ap (ap σ 8 u.toNat x) 9 u.toNat y), rfl, rfl, (show (1, (ap (ap σ 8 u.toNat x) 9 u.toNat y)) = sp_put k nl nt nb σ u x y from by unfold sp_put; rw [rowA_3 (by omega), rowB_3 (by omega), if_pos (by omega)])⟩
        ·
          have hn0 := npF_2 (nl := nl) (nt := nt) (nb := nb) (show k = 2 by omega)
          refine x_aload_n (pc' := 69) C 0 dX12_put_68 rfl rfl ?_
          refine x_get (pc' := 72) C dX12_put_69 rfl ff_X12_17_11 0 rfl rfl ?_
          refine x_iconst (pc' := 73) C dX12_put_72 rfl ?_
          refine x_iload_n (pc' := 74) C 1 dX12_put_73 rfl rfl ?_
          refine x_imul (pc' := 75) C dX12_put_74 rfl ?_
          refine x_iload_n (pc' := 76) C 2 dX12_put_75 rfl rfl ?_
          refine x_iast (pc' := 77) (ws' := [((md 0), ob 11 [.int (iI (σ 0 0)), .int (iI (k : Int)), .ref (md 1), .int (iI (nl : Int)), .ref (md 2), .ref (md 3), .int (iI (nt : Int)), .int (iI (σ 0 4)), .ref (md 4), .int (iI (nb : Int)), .long (lI (σ 0 6)), .long (lI (σ 0 7)), .ref (md 5), .ref (md 6), .ref (md 7), .ref (md 8), .int (iI (mn : Int)), .ref (md 9), .ref (md 10), .ref (md 11), .int (iI (pm : Int)), .long (lI (μ 0 0)), .long (lI (μ 0 1)), .long (lI (μ 0 2)), .long (lI (μ 0 3))]), ((md 1), ia E 56 (mI 1 4 σ)), ((md 2), ia E 32 (va_up (mI 5 2 σ) (2 * u.toNat) x)), ((md 3), ia E 24 (mI 7 3 σ)), ((md 4), ia E 24 (mI 10 3 σ))]) C (2 * u.toNat) dX12_put_76 rfl 2 rfl (by omega) (by omega) (by omega) rfl ?_
          refine x_aload_n (pc' := 78) C 0 dX12_put_77 rfl rfl ?_
          refine x_get (pc' := 81) C dX12_put_78 rfl ff_X12_17_11 0 rfl rfl ?_
          refine x_iconst (pc' := 82) C dX12_put_81 rfl ?_
          refine x_iload_n (pc' := 83) C 1 dX12_put_82 rfl rfl ?_
          refine x_imul (pc' := 84) C dX12_put_83 rfl ?_
          refine x_iconst (pc' := 85) C dX12_put_84 rfl ?_
          refine x_iadd (pc' := 86) C dX12_put_85 rfl ?_
          refine x_iload_n (pc' := 87) C 3 dX12_put_86 rfl rfl ?_
          refine x_iast (pc' := 88) (ws' := [((md 0), ob 11 [.int (iI (σ 0 0)), .int (iI (k : Int)), .ref (md 1), .int (iI (nl : Int)), .ref (md 2), .ref (md 3), .int (iI (nt : Int)), .int (iI (σ 0 4)), .ref (md 4), .int (iI (nb : Int)), .long (lI (σ 0 6)), .long (lI (σ 0 7)), .ref (md 5), .ref (md 6), .ref (md 7), .ref (md 8), .int (iI (mn : Int)), .ref (md 9), .ref (md 10), .ref (md 11), .int (iI (pm : Int)), .long (lI (μ 0 0)), .long (lI (μ 0 1)), .long (lI (μ 0 2)), .long (lI (μ 0 3))]), ((md 1), ia E 56 (mI 1 4 σ)), ((md 2), ia E 32 (va_up (va_up (mI 5 2 σ) (2 * u.toNat) x) (2 * u.toNat + 1) y)), ((md 3), ia E 24 (mI 7 3 σ)), ((md 4), ia E 24 (mI 10 3 σ))]) C (2 * u.toNat + 1) dX12_put_87 rfl 2 rfl (by omega) (by omega) (by omega) rfl ?_
          refine x_goto (tgt := 144) C dX12_put_88 (by decide) ?_
          refine x_iconst (pc' := 145) C dX12_put_144 rfl ?_
          refine x_ws (ws' := [((md 0), ob 11 [.int (iI ((ap (ap σ 5 u.toNat x) 6 u.toNat y) 0 0)), .int (iI (k : Int)), .ref (md 1), .int (iI (nl : Int)), .ref (md 2), .ref (md 3), .int (iI (nt : Int)), .int (iI ((ap (ap σ 5 u.toNat x) 6 u.toNat y) 0 4)), .ref (md 4), .int (iI (nb : Int)), .long (lI ((ap (ap σ 5 u.toNat x) 6 u.toNat y) 0 6)), .long (lI ((ap (ap σ 5 u.toNat x) 6 u.toNat y) 0 7)), .ref (md 5), .ref (md 6), .ref (md 7), .ref (md 8), .int (iI (mn : Int)), .ref (md 9), .ref (md 10), .ref (md 11), .int (iI (pm : Int)), .long (lI (μ 0 0)), .long (lI (μ 0 1)), .long (lI (μ 0 2)), .long (lI (μ 0 3))]), ((md 1), ia E 56 (mI 1 4 (ap (ap σ 5 u.toNat x) 6 u.toNat y))), ((md 2), ia E 32 (mI 5 2 (ap (ap σ 5 u.toNat x) 6 u.toNat y))), ((md 3), ia E 24 (mI 7 3 (ap (ap σ 5 u.toNat x) 6 u.toNat y))), ((md 4), ia E 24 (mI 10 3 (ap (ap σ 5 u.toNat x) 6 u.toNat y)))]) (by simp only [mI_apO (r := 1) (w := 4) (q := 5) (by decide) (by decide), mI_apO (r := 1) (w := 4) (q := 6) (by decide) (by decide), mI_ap0 (r := 5) (w := 2) (by decide), mI_ap (r := 5) (w := 2) (d := 1) (by decide), mI_apO (r := 7) (w := 3) (q := 5) (by decide) (by decide), mI_apO (r := 7) (w := 3) (q := 6) (by decide) (by decide), mI_apO (r := 10) (w := 3) (q := 5) (by decide) (by decide), mI_apO (r := 10) (w := 3) (q := 6) (by decide) (by decide)] <;> rfl) ?_
          exact x_iret C hr dX12_put_145 ⟨1, (ap (ap σ 5 u.toNat x) 6 u.toNat y), rfl, rfl, (show (1, (ap (ap σ 5 u.toNat x) 6 u.toNat y)) = sp_put k nl nt nb σ u x y from by unfold sp_put; rw [rowA_2 (by omega), rowB_2 (by omega), if_pos (by omega)])⟩
      ·
        have hn0 := npF_0 (nl := nl) (nt := nt) (nb := nb) (show k < 2 by omega)
        refine x_aload_n (pc' := 36) C 0 dX12_put_35 rfl rfl ?_
        refine x_get (pc' := 39) C dX12_put_36 rfl ff_X12_13_11 0 rfl rfl ?_
        refine x_iconst (pc' := 40) C dX12_put_39 rfl ?_
        refine x_iload_n (pc' := 41) C 1 dX12_put_40 rfl rfl ?_
        refine x_imul (pc' := 42) C dX12_put_41 rfl ?_
        refine x_iconst (pc' := 43) C dX12_put_42 rfl ?_
        refine x_iadd (pc' := 44) C dX12_put_43 rfl ?_
        refine x_iload_n (pc' := 45) C 2 dX12_put_44 rfl rfl ?_
        refine x_iast (pc' := 46) (ws' := [((md 0), ob 11 [.int (iI (σ 0 0)), .int (iI (k : Int)), .ref (md 1), .int (iI (nl : Int)), .ref (md 2), .ref (md 3), .int (iI (nt : Int)), .int (iI (σ 0 4)), .ref (md 4), .int (iI (nb : Int)), .long (lI (σ 0 6)), .long (lI (σ 0 7)), .ref (md 5), .ref (md 6), .ref (md 7), .ref (md 8), .int (iI (mn : Int)), .ref (md 9), .ref (md 10), .ref (md 11), .int (iI (pm : Int)), .long (lI (μ 0 0)), .long (lI (μ 0 1)), .long (lI (μ 0 2)), .long (lI (μ 0 3))]), ((md 1), ia E 56 (va_up (mI 1 4 σ) (4 * u.toNat + 2) x)), ((md 2), ia E 32 (mI 5 2 σ)), ((md 3), ia E 24 (mI 7 3 σ)), ((md 4), ia E 24 (mI 10 3 σ))]) C (4 * u.toNat + 2) dX12_put_45 rfl 1 rfl (by omega) (by omega) (by omega) rfl ?_
        refine x_aload_n (pc' := 47) C 0 dX12_put_46 rfl rfl ?_
        refine x_get (pc' := 50) C dX12_put_47 rfl ff_X12_13_11 0 rfl rfl ?_
        refine x_iconst (pc' := 51) C dX12_put_50 rfl ?_
        refine x_iload_n (pc' := 52) C 1 dX12_put_51 rfl rfl ?_
        refine x_imul (pc' := 53) C dX12_put_52 rfl ?_
        refine x_iconst (pc' := 54) C dX12_put_53 rfl ?_
        refine x_iadd (pc' := 55) C dX12_put_54 rfl ?_
        refine x_iload_n (pc' := 56) C 3 dX12_put_55 rfl rfl ?_
        refine x_iast (pc' := 57) (ws' := [((md 0), ob 11 [.int (iI (σ 0 0)), .int (iI (k : Int)), .ref (md 1), .int (iI (nl : Int)), .ref (md 2), .ref (md 3), .int (iI (nt : Int)), .int (iI (σ 0 4)), .ref (md 4), .int (iI (nb : Int)), .long (lI (σ 0 6)), .long (lI (σ 0 7)), .ref (md 5), .ref (md 6), .ref (md 7), .ref (md 8), .int (iI (mn : Int)), .ref (md 9), .ref (md 10), .ref (md 11), .int (iI (pm : Int)), .long (lI (μ 0 0)), .long (lI (μ 0 1)), .long (lI (μ 0 2)), .long (lI (μ 0 3))]), ((md 1), ia E 56 (va_up (va_up (mI 1 4 σ) (4 * u.toNat + 2) x) (4 * u.toNat + 3) y)), ((md 2), ia E 32 (mI 5 2 σ)), ((md 3), ia E 24 (mI 7 3 σ)), ((md 4), ia E 24 (mI 10 3 σ))]) C (4 * u.toNat + 3) dX12_put_56 rfl 1 rfl (by omega) (by omega) (by omega) rfl ?_
        refine x_goto (tgt := 144) C dX12_put_57 (by decide) ?_
        refine x_iconst (pc' := 145) C dX12_put_144 rfl ?_
        refine x_ws (ws' := [((md 0), ob 11 [.int (iI ((ap (ap σ 3 u.toNat x) 4 u.toNat y) 0 0)), .int (iI (k : Int)), .ref (md 1), .int (iI (nl : Int)), .ref (md 2), .ref (md 3), .int (iI (nt : Int)), .int (iI ((ap (ap σ 3 u.toNat x) 4 u.toNat y) 0 4)), .ref (md 4), .int (iI (nb : Int)), .long (lI ((ap (ap σ 3 u.toNat x) 4 u.toNat y) 0 6)), .long (lI ((ap (ap σ 3 u.toNat x) 4 u.toNat y) 0 7)), .ref (md 5), .ref (md 6), .ref (md 7), .ref (md 8), .int (iI (mn : Int)), .ref (md 9), .ref (md 10), .ref (md 11), .int (iI (pm : Int)), .long (lI (μ 0 0)), .long (lI (μ 0 1)), .long (lI (μ 0 2)), .long (lI (μ 0 3))]), ((md 1), ia E 56 (mI 1 4 (ap (ap σ 3 u.toNat x) 4 u.toNat y))), ((md 2), ia E 32 (mI 5 2 (ap (ap σ 3 u.toNat x) 4 u.toNat y))), ((md 3), ia E 24 (mI 7 3 (ap (ap σ 3 u.toNat x) 4 u.toNat y))), ((md 4), ia E 24 (mI 10 3 (ap (ap σ 3 u.toNat x) 4 u.toNat y)))]) (by simp only [mI_ap (r := 1) (w := 4) (d := 2) (by decide), mI_ap (r := 1) (w := 4) (d := 3) (by decide), mI_apO (r := 5) (w := 2) (q := 3) (by decide) (by decide), mI_apO (r := 5) (w := 2) (q := 4) (by decide) (by decide), mI_apO (r := 7) (w := 3) (q := 3) (by decide) (by decide), mI_apO (r := 7) (w := 3) (q := 4) (by decide) (by decide), mI_apO (r := 10) (w := 3) (q := 3) (by decide) (by decide), mI_apO (r := 10) (w := 3) (q := 4) (by decide) (by decide)] <;> rfl) ?_
        exact x_iret C hr dX12_put_145 ⟨1, (ap (ap σ 3 u.toNat x) 4 u.toNat y), rfl, rfl, (show (1, (ap (ap σ 3 u.toNat x) 4 u.toNat y)) = sp_put k nl nt nb σ u x y from by unfold sp_put; rw [rowA_0 (by omega), rowB_0 (by omega), if_pos (by omega)])⟩
    ·
      replace c21 := bI_z c21
      refine x_bipush (pc' := 26) C dX12_put_24 rfl rfl ?_
      exact x_iret C hr dX12_put_26 ⟨(-2), σ, rfl, rfl, (show ((-2), σ) = sp_put k nl nt nb σ u x y from by unfold sp_put; rw [if_neg (by omega)])⟩

set_option maxHeartbeats 4000000 in
set_option maxRecDepth 100000 in
theorem c_X12_clear (l : Launch) (E : EV) (md : Nat → Nat) (k : Nat) (nl : Nat) (nt : Nat) (nb : Nat) (σ : AS) (mn : Nat) (pm : Nat) (μ : AS) (hk : k < 5) (hnl : nl ≤ 14) (hnt : nt ≤ 8) (hnb : nb ≤ 8) : MC l E yX12_clear cX12_clear 3 (some .int) ({ frames := 1, cells := 0, slots := 0, locals := 20 }) [.ref (md 0)] [((md 0), ob 11 [.int (iI (σ 0 0)), .int (iI (k : Int)), .ref (md 1), .int (iI (nl : Int)), .ref (md 2), .ref (md 3), .int (iI (nt : Int)), .int (iI (σ 0 4)), .ref (md 4), .int (iI (nb : Int)), .long (lI (σ 0 6)), .long (lI (σ 0 7)), .ref (md 5), .ref (md 6), .ref (md 7), .ref (md 8), .int (iI (mn : Int)), .ref (md 9), .ref (md 10), .ref (md 11), .int (iI (pm : Int)), .long (lI (μ 0 0)), .long (lI (μ 0 1)), .long (lI (μ 0 2)), .long (lI (μ 0 3))]), ((md 1), ia E 56 (mI 1 4 σ)), ((md 2), ia E 32 (mI 5 2 σ)), ((md 3), ia E 24 (mI 7 3 σ)), ((md 4), ia E 24 (mI 10 3 σ))] (fun v_ w_ => ∃ (r : Int) (nl2 : Nat) (nt2 : Nat) (nb2 : Nat) (σ2 : AS), v_ = some (.int (iI r)) ∧ w_ = [((md 0), ob 11 [.int (iI (σ2 0 0)), .int (iI (k : Int)), .ref (md 1), .int (iI (nl2 : Int)), .ref (md 2), .ref (md 3), .int (iI (nt2 : Int)), .int (iI (σ2 0 4)), .ref (md 4), .int (iI (nb2 : Int)), .long (lI (σ2 0 6)), .long (lI (σ2 0 7)), .ref (md 5), .ref (md 6), .ref (md 7), .ref (md 8), .int (iI (mn : Int)), .ref (md 9), .ref (md 10), .ref (md 11), .int (iI (pm : Int)), .long (lI (μ 0 0)), .long (lI (μ 0 1)), .long (lI (μ 0 2)), .long (lI (μ 0 3))]), ((md 1), ia E 56 (mI 1 4 σ2)), ((md 2), ia E 32 (mI 5 2 σ2)), ((md 3), ia E 24 (mI 7 3 σ2)), ((md 4), ia E 24 (mI 10 3 σ2))] ∧ ((r, nl2, nt2, nb2, σ2) = sp_clear k nl nt nb σ)) := by
  refine MC.of (by decide +kernel) (Nat.le_of_ble_eq_true rfl) ?_
  intro p_ e_ s_ m_ args_ below_ meth_ c_ A_ C hr hnm
  have C : Cx p_ s_ m_ args_ meth_ c_ E A_ 3 cX12_clear RX12 := C
  show Wx _ _ _ _ _ _ _ _ _ _ _ _ _ _ _ _ 0 [(0, .ref (md 0))] [] [((md 0), ob 11 [.int (iI (σ 0 0)), .int (iI (k : Int)), .ref (md 1), .int (iI (nl : Int)), .ref (md 2), .ref (md 3), .int (iI (nt : Int)), .int (iI (σ 0 4)), .ref (md 4), .int (iI (nb : Int)), .long (lI (σ 0 6)), .long (lI (σ 0 7)), .ref (md 5), .ref (md 6), .ref (md 7), .ref (md 8), .int (iI (mn : Int)), .ref (md 9), .ref (md 10), .ref (md 11), .int (iI (pm : Int)), .long (lI (μ 0 0)), .long (lI (μ 0 1)), .long (lI (μ 0 2)), .long (lI (μ 0 3))]), ((md 1), ia E 56 (mI 1 4 σ)), ((md 2), ia E 32 (mI 5 2 σ)), ((md 3), ia E 24 (mI 7 3 σ)), ((md 4), ia E 24 (mI 10 3 σ))]
  refine x_aload_n (pc' := 1) C 0 dX12_clear_0 rfl rfl ?_
  refine x_callV (pc' := 4) (As := []) (rest := []) (q0 := 0) C rfl rfl cv_X12_89_X12 dX12_clear_1 rfl (c_X12_parts l E md k nl nt nb σ mn pm μ (show k < 5 from by omega) (show nl ≤ 14 from by omega) (show nt ≤ 8 from by omega) (show nb ≤ 8 from by omega)) mm_X12_parts (hstk := rfl) (hlen := rfl) (hcat := Nat.le_of_ble_eq_true rfl) (isC := [0]) (isR := [1, 2, 3, 4]) (wr := [((md 1), ia E 56 (mI 1 4 σ)), ((md 2), ia E 32 (mI 5 2 σ)), ((md 3), ia E 24 (mI 7 3 σ)), ((md 4), ia E 24 (mI 10 3 σ))]) (hC := rfl) (hR := rfl) (hnC := rfl) (hn := rfl) (hdis := by decide) (hR1 := ⟨Nat.le_of_ble_eq_true rfl, Nat.le_of_ble_eq_true rfl⟩) (hcs := ⟨Nat.le_of_ble_eq_true rfl, Nat.le_of_ble_eq_true rfl⟩) (fun v_ w_ hp_ => ?_)
  obtain ⟨rfl, rfl⟩ := hp_
  show Wx _ _ _ _ _ _ _ _ _ _ _ _ _ _ _ _ 4 [(0, .ref (md 0))] [.int (iI ((npF k nl nt nb : Nat) : Int))] [((md 1), ia E 56 (mI 1 4 σ)), ((md 2), ia E 32 (mI 5 2 σ)), ((md 3), ia E 24 (mI 7 3 σ)), ((md 4), ia E 24 (mI 10 3 σ)), ((md 0), ob 11 [.int (iI (σ 0 0)), .int (iI (k : Int)), .ref (md 1), .int (iI (nl : Int)), .ref (md 2), .ref (md 3), .int (iI (nt : Int)), .int (iI (σ 0 4)), .ref (md 4), .int (iI (nb : Int)), .long (lI (σ 0 6)), .long (lI (σ 0 7)), .ref (md 5), .ref (md 6), .ref (md 7), .ref (md 8), .int (iI (mn : Int)), .ref (md 9), .ref (md 10), .ref (md 11), .int (iI (pm : Int)), .long (lI (μ 0 0)), .long (lI (μ 0 1)), .long (lI (μ 0 2)), .long (lI (μ 0 3))])]
  refine x_sub (ws' := [((md 0), ob 11 [.int (iI (σ 0 0)), .int (iI (k : Int)), .ref (md 1), .int (iI (nl : Int)), .ref (md 2), .ref (md 3), .int (iI (nt : Int)), .int (iI (σ 0 4)), .ref (md 4), .int (iI (nb : Int)), .long (lI (σ 0 6)), .long (lI (σ 0 7)), .ref (md 5), .ref (md 6), .ref (md 7), .ref (md 8), .int (iI (mn : Int)), .ref (md 9), .ref (md 10), .ref (md 11), .int (iI (pm : Int)), .long (lI (μ 0 0)), .long (lI (μ 0 1)), .long (lI (μ 0 2)), .long (lI (μ 0 3))]), ((md 1), ia E 56 (mI 1 4 σ)), ((md 2), ia E 32 (mI 5 2 σ)), ((md 3), ia E 24 (mI 7 3 σ)), ((md 4), ia E 24 (mI 10 3 σ))]) [4, 0, 1, 2, 3] rfl rfl ?_
  refine x_istore_n (pc' := 5) (lv' := [(1, .int (iI ((npF k nl nt nb : Nat) : Int))), (0, .ref (md 0))]) C dX12_clear_4 rfl (by decide) rfl ?_
  refine x_aload_n (pc' := 6) C 1 dX12_clear_5 rfl rfl ?_
  refine x_get (pc' := 9) C dX12_clear_6 rfl ff_X12_65_11 0 rfl rfl ?_
  refine x_iconst (pc' := 10) C dX12_clear_9 rfl ?_
  refine x_icmp_ge (pc' := 13) (tgt := 21) C dX12_clear_10 rfl (by decide) (by omega) (by omega) (fun c10 => ?_) (fun c10 => ?_)
  ·
    refine x_aload_n (pc' := 22) C 1 dX12_clear_21 rfl rfl ?_
    refine x_get (pc' := 25) C dX12_clear_22 rfl ff_X12_65_11 0 rfl rfl ?_
    refine x_iconst (pc' := 26) C dX12_clear_25 rfl ?_
    refine x_icmp_ne (pc' := 29) (tgt := 53) C dX12_clear_26 rfl (by decide) (by omega) (by omega) (fun c26 => ?_) (fun c26 => ?_)
    ·
      refine x_aload_n (pc' := 54) C 1 dX12_clear_53 rfl rfl ?_
      refine x_get (pc' := 57) C dX12_clear_54 rfl ff_X12_65_11 0 rfl rfl ?_
      refine x_iconst (pc' := 58) C dX12_clear_57 rfl ?_
      refine x_icmp_ne (pc' := 61) (tgt := 69) C dX12_clear_58 rfl (by decide) (by omega) (by omega) (fun c58 => ?_) (fun c58 => ?_)
      ·
        refine x_aload_n (pc' := 70) C 1 dX12_clear_69 rfl rfl ?_
        refine x_iconst (pc' := 71) C dX12_clear_70 rfl ?_
        refine x_put (pc' := 74) (ws' := [((md 0), ob 11 [.int (iI (σ 0 0)), .int (iI (k : Int)), .ref (md 1), .int (iI (nl : Int)), .ref (md 2), .ref (md 3), .int (iI (nt : Int)), .int (iI (σ 0 4)), .ref (md 4), .int (iI 0), .long (lI (σ 0 6)), .long (lI (σ 0 7)), .ref (md 5), .ref (md 6), .ref (md 7), .ref (md 8), .int (iI (mn : Int)), .ref (md 9), .ref (md 10), .ref (md 11), .int (iI (pm : Int)), .long (lI (μ 0 0)), .long (lI (μ 0 1)), .long (lI (μ 0 2)), .long (lI (μ 0 3))]), ((md 1), ia E 56 (mI 1 4 σ)), ((md 2), ia E 32 (mI 5 2 σ)), ((md 3), ia E 24 (mI 7 3 σ)), ((md 4), ia E 24 (mI 10 3 σ))]) C dX12_clear_71 rfl pf_X12_86_11 0 rfl rfl rfl (Nat.le_of_ble_eq_true rfl) rfl ?_
        refine x_iload_n (pc' := 75) C 0 dX12_clear_74 rfl rfl ?_
        exact x_iret C hr dX12_clear_75 ⟨((npF k nl nt nb : Nat) : Int), nl, nt, 0, σ, rfl, rfl, (show (((npF k nl nt nb : Nat) : Int), nl, nt, 0, σ) = sp_clear k nl nt nb σ from by unfold sp_clear; rw [if_neg (by omega), if_neg (by omega), if_neg (by omega), npF_4 (by omega)])⟩
      ·
        refine x_aload_n (pc' := 62) C 1 dX12_clear_61 rfl rfl ?_
        refine x_iconst (pc' := 63) C dX12_clear_62 rfl ?_
        refine x_put (pc' := 66) (ws' := [((md 0), ob 11 [.int (iI (σ 0 0)), .int (iI (k : Int)), .ref (md 1), .int (iI (nl : Int)), .ref (md 2), .ref (md 3), .int (iI 0), .int (iI (σ 0 4)), .ref (md 4), .int (iI (nb : Int)), .long (lI (σ 0 6)), .long (lI (σ 0 7)), .ref (md 5), .ref (md 6), .ref (md 7), .ref (md 8), .int (iI (mn : Int)), .ref (md 9), .ref (md 10), .ref (md 11), .int (iI (pm : Int)), .long (lI (μ 0 0)), .long (lI (μ 0 1)), .long (lI (μ 0 2)), .long (lI (μ 0 3))]), ((md 1), ia E 56 (mI 1 4 σ)), ((md 2), ia E 32 (mI 5 2 σ)), ((md 3), ia E 24 (mI 7 3 σ)), ((md 4), ia E 24 (mI 10 3 σ))]) C dX12_clear_63 rfl pf_X12_81_11 0 rfl rfl rfl (Nat.le_of_ble_eq_true rfl) rfl ?_
        refine x_goto (tgt := 74) C dX12_clear_66 (by decide) ?_
        refine x_iload_n (pc' := 75) C 0 dX12_clear_74 rfl rfl ?_
        exact x_iret C hr dX12_clear_75 ⟨((npF k nl nt nb : Nat) : Int), nl, 0, nb, σ, rfl, rfl, (show (((npF k nl nt nb : Nat) : Int), nl, 0, nb, σ) = sp_clear k nl nt nb σ from by unfold sp_clear; rw [if_neg (by omega), if_neg (by omega), if_pos (by omega), npF_3 (by omega)])⟩
    ·
      refine x_iconst (pc' := 30) C dX12_clear_29 rfl ?_
      refine x_istore_n (pc' := 31) (lv' := [(2, .int (iI 0)), (1, .int (iI ((npF k nl nt nb : Nat) : Int))), (0, .ref (md 0))]) C dX12_clear_30 rfl (by decide) rfl ?_
      refine x_lv [2, 1, 0] rfl ?_
      refine x_loop (α := (Nat) × (Nat → Int)) (fun a_ => (a_.1 ≤ 32) ∧ (∀ j_ : Nat, j_ < a_.1 → a_.2 j_ = 0)) (fun a_ => 32 - a_.1) (fun a_ => [(0, .ref (md 0)), (1, .int (iI ((npF k nl nt nb : Nat) : Int))), (2, .int (iI (a_.1 : Int)))]) (fun a_ => [((md 0), ob 11 [.int (iI (σ 0 0)), .int (iI (k : Int)), .ref (md 1), .int (iI (nl : Int)), .ref (md 2), .ref (md 3), .int (iI (nt : Int)), .int (iI (σ 0 4)), .ref (md 4), .int (iI (nb : Int)), .long (lI (σ 0 6)), .long (lI (σ 0 7)), .ref (md 5), .ref (md 6), .ref (md 7), .ref (md 8), .int (iI (mn : Int)), .ref (md 9), .ref (md 10), .ref (md 11), .int (iI (pm : Int)), .long (lI (μ 0 0)), .long (lI (μ 0 1)), .long (lI (μ 0 2)), .long (lI (μ 0 3))]), ((md 1), ia E 56 (mI 1 4 σ)), ((md 2), ia E 32 a_.2), ((md 3), ia E 24 (mI 7 3 σ)), ((md 4), ia E 24 (mI 10 3 σ))]) ?_ (0, (mI 5 2 σ)) ?_
      · intro a_ hI_ ih31
        obtain ⟨i, f1⟩ := a_
        obtain ⟨hi, hz⟩ := hI_
        replace hi : i ≤ 32 := hi
        replace hz : ∀ j_ : Nat, j_ < i → f1 j_ = 0 := hz
        show Wx _ _ _ _ _ _ _ _ _ _ _ _ _ _ _ _ 31 [(0, .ref (md 0)), (1, .int (iI ((npF k nl nt nb : Nat) : Int))), (2, .int (iI (i : Int)))] [] [((md 0), ob 11 [.int (iI (σ 0 0)), .int (iI (k : Int)), .ref (md 1), .int (iI (nl : Int)), .ref (md 2), .ref (md 3), .int (iI (nt : Int)), .int (iI (σ 0 4)), .ref (md 4), .int (iI (nb : Int)), .long (lI (σ 0 6)), .long (lI (σ 0 7)), .ref (md 5), .ref (md 6), .ref (md 7), .ref (md 8), .int (iI (mn : Int)), .ref (md 9), .ref (md 10), .ref (md 11), .int (iI (pm : Int)), .long (lI (μ 0 0)), .long (lI (μ 0 1)), .long (lI (μ 0 2)), .long (lI (μ 0 3))]), ((md 1), ia E 56 (mI 1 4 σ)), ((md 2), ia E 32 f1), ((md 3), ia E 24 (mI 7 3 σ)), ((md 4), ia E 24 (mI 10 3 σ))]
        refine x_iload_n (pc' := 32) C 2 dX12_clear_31 rfl rfl ?_
        refine x_bipush (pc' := 34) C dX12_clear_32 rfl rfl ?_
        refine x_icmp_ge (pc' := 37) (tgt := 50) C dX12_clear_34 rfl (by decide) (by omega) (by omega) (fun c34 => ?_) (fun c34 => ?_)
        ·
          refine x_fi (ws' := [((md 0), ob 11 [.int (iI (σ 0 0)), .int (iI (k : Int)), .ref (md 1), .int (iI (nl : Int)), .ref (md 2), .ref (md 3), .int (iI (nt : Int)), .int (iI (σ 0 4)), .ref (md 4), .int (iI (nb : Int)), .long (lI (σ 0 6)), .long (lI (σ 0 7)), .ref (md 5), .ref (md 6), .ref (md 7), .ref (md 8), .int (iI (mn : Int)), .ref (md 9), .ref (md 10), .ref (md 11), .int (iI (pm : Int)), .long (lI (μ 0 0)), .long (lI (μ 0 1)), .long (lI (μ 0 2)), .long (lI (μ 0 3))]), ((md 1), ia E 56 (mI 1 4 σ)), ((md 2), ia E 32 (mI 5 2 (up2 (up2 σ 5 (fun _ => 0)) 6 (fun _ => 0)))), ((md 3), ia E 24 (mI 7 3 σ)), ((md 4), ia E 24 (mI 10 3 σ))]) 2 rfl (mI_0 (r := 0) (w := 0) f1 f1 (fun j_ hj => hz j_ (by omega))) rfl ?_
          refine x_goto (tgt := 74) C dX12_clear_50 (by decide) ?_
          refine x_iload_n (pc' := 75) C 1 dX12_clear_74 rfl rfl ?_
          refine x_ws (ws' := [((md 0), ob 11 [.int (iI ((up2 (up2 σ 5 (fun _ => 0)) 6 (fun _ => 0)) 0 0)), .int (iI (k : Int)), .ref (md 1), .int (iI (nl : Int)), .ref (md 2), .ref (md 3), .int (iI (nt : Int)), .int (iI ((up2 (up2 σ 5 (fun _ => 0)) 6 (fun _ => 0)) 0 4)), .ref (md 4), .int (iI (nb : Int)), .long (lI ((up2 (up2 σ 5 (fun _ => 0)) 6 (fun _ => 0)) 0 6)), .long (lI ((up2 (up2 σ 5 (fun _ => 0)) 6 (fun _ => 0)) 0 7)), .ref (md 5), .ref (md 6), .ref (md 7), .ref (md 8), .int (iI (mn : Int)), .ref (md 9), .ref (md 10), .ref (md 11), .int (iI (pm : Int)), .long (lI (μ 0 0)), .long (lI (μ 0 1)), .long (lI (μ 0 2)), .long (lI (μ 0 3))]), ((md 1), ia E 56 (mI 1 4 (up2 (up2 σ 5 (fun _ => 0)) 6 (fun _ => 0)))), ((md 2), ia E 32 (mI 5 2 (up2 (up2 σ 5 (fun _ => 0)) 6 (fun _ => 0)))), ((md 3), ia E 24 (mI 7 3 (up2 (up2 σ 5 (fun _ => 0)) 6 (fun _ => 0)))), ((md 4), ia E 24 (mI 10 3 (up2 (up2 σ 5 (fun _ => 0)) 6 (fun _ => 0))))]) (by rw [mI_up0 (r := 1) (w := 4) (by decide) (by decide), mI_up0 (r := 7) (w := 3) (by decide) (by decide), mI_up0 (r := 10) (w := 3) (by decide) (by decide)] <;> rfl) ?_
          exact x_iret C hr dX12_clear_75 ⟨((npF k nl nt nb : Nat) : Int), nl, nt, nb, (up2 (up2 σ 5 (fun _ => 0)) 6 (fun _ => 0)), rfl, rfl, (show (((npF k nl nt nb : Nat) : Int), nl, nt, nb, (up2 (up2 σ 5 (fun _ => 0)) 6 (fun _ => 0))) = sp_clear k nl nt nb σ from by unfold sp_clear; rw [if_neg (by omega), if_pos (by omega), npF_2 (by omega)] <;> rfl)⟩
        ·
          refine x_aload_n (pc' := 38) C 0 dX12_clear_37 rfl rfl ?_
          refine x_get (pc' := 41) C dX12_clear_38 rfl ff_X12_17_11 0 rfl rfl ?_
          refine x_iload_n (pc' := 42) C 2 dX12_clear_41 rfl rfl ?_
          refine x_iconst (pc' := 43) C dX12_clear_42 rfl ?_
          refine x_iast (pc' := 44) (ws' := [((md 0), ob 11 [.int (iI (σ 0 0)), .int (iI (k : Int)), .ref (md 1), .int (iI (nl : Int)), .ref (md 2), .ref (md 3), .int (iI (nt : Int)), .int (iI (σ 0 4)), .ref (md 4), .int (iI (nb : Int)), .long (lI (σ 0 6)), .long (lI (σ 0 7)), .ref (md 5), .ref (md 6), .ref (md 7), .ref (md 8), .int (iI (mn : Int)), .ref (md 9), .ref (md 10), .ref (md 11), .int (iI (pm : Int)), .long (lI (μ 0 0)), .long (lI (μ 0 1)), .long (lI (μ 0 2)), .long (lI (μ 0 3))]), ((md 1), ia E 56 (mI 1 4 σ)), ((md 2), ia E 32 (va_up f1 i 0)), ((md 3), ia E 24 (mI 7 3 σ)), ((md 4), ia E 24 (mI 10 3 σ))]) C i dX12_clear_43 rfl 2 rfl (by omega) (by omega) (by omega) rfl ?_
          refine x_iinc (pc' := 47) (lv' := [(2, .int (iI ((i : Int) + 1))), (0, .ref (md 0)), (1, .int (iI ((npF k nl nt nb : Nat) : Int)))]) C 2 dX12_clear_44 rfl (by decide) rfl rfl ?_
          refine x_lvI (lv' := [(2, .int (iI ((i + 1 : Nat) : Int))), (0, .ref (md 0)), (1, .int (iI ((npF k nl nt nb : Nat) : Int)))]) 0 rfl (by omega) rfl ?_
          refine x_goto (tgt := 31) C dX12_clear_47 (by decide) ?_
          refine x_lv [1, 2, 0] rfl ?_
          exact ih31 ((i + 1), (va_up f1 i 0)) ⟨(show (i + 1) ≤ 32 from by omega), (show ∀ j_ : Nat, j_ < (i + 1) → (va_up f1 i 0) j_ = 0 from fun j_ hj => by by_cases h : j_ = i <;> simp [va_up, h]; exact hz j_ (by omega))⟩ (show 32 - (i + 1) < 32 - i from by omega)
      · exact ⟨(show 0 ≤ 32 from by omega), (show ∀ j_ : Nat, j_ < 0 → (mI 5 2 σ) j_ = 0 from fun j_ h => absurd h (Nat.not_lt_zero _))⟩
  ·
    refine x_aload_n (pc' := 14) C 1 dX12_clear_13 rfl rfl ?_
    refine x_iconst (pc' := 15) C dX12_clear_14 rfl ?_
    refine x_put (pc' := 18) (ws' := [((md 0), ob 11 [.int (iI (σ 0 0)), .int (iI (k : Int)), .ref (md 1), .int (iI 0), .ref (md 2), .ref (md 3), .int (iI (nt : Int)), .int (iI (σ 0 4)), .ref (md 4), .int (iI (nb : Int)), .long (lI (σ 0 6)), .long (lI (σ 0 7)), .ref (md 5), .ref (md 6), .ref (md 7), .ref (md 8), .int (iI (mn : Int)), .ref (md 9), .ref (md 10), .ref (md 11), .int (iI (pm : Int)), .long (lI (μ 0 0)), .long (lI (μ 0 1)), .long (lI (μ 0 2)), .long (lI (μ 0 3))]), ((md 1), ia E 56 (mI 1 4 σ)), ((md 2), ia E 32 (mI 5 2 σ)), ((md 3), ia E 24 (mI 7 3 σ)), ((md 4), ia E 24 (mI 10 3 σ))]) C dX12_clear_15 rfl pf_X12_74_11 0 rfl rfl rfl (Nat.le_of_ble_eq_true rfl) rfl ?_
    refine x_goto (tgt := 74) C dX12_clear_18 (by decide) ?_
    refine x_iload_n (pc' := 75) C 0 dX12_clear_74 rfl rfl ?_
    exact x_iret C hr dX12_clear_75 ⟨((npF k nl nt nb : Nat) : Int), 0, nt, nb, σ, rfl, rfl, (show (((npF k nl nt nb : Nat) : Int), 0, nt, nb, σ) = sp_clear k nl nt nb σ from by unfold sp_clear; rw [if_pos (by omega), npF_0 (by omega)])⟩

set_option maxHeartbeats 4000000 in
set_option maxRecDepth 100000 in
theorem c_X12_part (l : Launch) (E : EV) (md : Nat → Nat) (k : Nat) (nl : Nat) (nt : Nat) (nb : Nat) (σ : AS) (mn : Nat) (pm : Nat) (μ : AS) (t : Int) (r_t : -2147483648 ≤ t ∧ t < 2147483648) : MC l E yX12_part cX12_part 2 (some .long) ({ frames := 0, cells := 0, slots := 0, locals := 0 }) [.ref (md 0), .int (iI t)] [((md 0), ob 11 [.int (iI (σ 0 0)), .int (iI (k : Int)), .ref (md 1), .int (iI (nl : Int)), .ref (md 2), .ref (md 3), .int (iI (nt : Int)), .int (iI (σ 0 4)), .ref (md 4), .int (iI (nb : Int)), .long (lI (σ 0 6)), .long (lI (σ 0 7)), .ref (md 5), .ref (md 6), .ref (md 7), .ref (md 8), .int (iI (mn : Int)), .ref (md 9), .ref (md 10), .ref (md 11), .int (iI (pm : Int)), .long (lI (μ 0 0)), .long (lI (μ 0 1)), .long (lI (μ 0 2)), .long (lI (μ 0 3))])] (fun v_ w_ => v_ = some (.long (lI (sp_part σ t))) ∧ w_ = [((md 0), ob 11 [.int (iI (σ 0 0)), .int (iI (k : Int)), .ref (md 1), .int (iI (nl : Int)), .ref (md 2), .ref (md 3), .int (iI (nt : Int)), .int (iI (σ 0 4)), .ref (md 4), .int (iI (nb : Int)), .long (lI (σ 0 6)), .long (lI (σ 0 7)), .ref (md 5), .ref (md 6), .ref (md 7), .ref (md 8), .int (iI (mn : Int)), .ref (md 9), .ref (md 10), .ref (md 11), .int (iI (pm : Int)), .long (lI (μ 0 0)), .long (lI (μ 0 1)), .long (lI (μ 0 2)), .long (lI (μ 0 3))])]) := by
  refine MC.of (by decide +kernel) (Nat.le_of_ble_eq_true rfl) ?_
  intro p_ e_ s_ m_ args_ below_ meth_ c_ A_ C hr hnm
  have C : Cx p_ s_ m_ args_ meth_ c_ E A_ 2 cX12_part RX12 := C
  show Wx _ _ _ _ _ _ _ _ _ _ _ _ _ _ _ _ 0 [(0, .ref (md 0)), (1, .int (iI t))] [] [((md 0), ob 11 [.int (iI (σ 0 0)), .int (iI (k : Int)), .ref (md 1), .int (iI (nl : Int)), .ref (md 2), .ref (md 3), .int (iI (nt : Int)), .int (iI (σ 0 4)), .ref (md 4), .int (iI (nb : Int)), .long (lI (σ 0 6)), .long (lI (σ 0 7)), .ref (md 5), .ref (md 6), .ref (md 7), .ref (md 8), .int (iI (mn : Int)), .ref (md 9), .ref (md 10), .ref (md 11), .int (iI (pm : Int)), .long (lI (μ 0 0)), .long (lI (μ 0 1)), .long (lI (μ 0 2)), .long (lI (μ 0 3))])]
  refine x_iload_n (pc' := 1) C 1 dX12_part_0 rfl rfl ?_
  refine x_if_ne (pc' := 4) (tgt := 11) C dX12_part_1 rfl (by decide) (by omega) (fun c1 => ?_) (fun c1 => ?_)
  ·
    refine x_iload_n (pc' := 12) C 1 dX12_part_11 rfl rfl ?_
    refine x_iconst (pc' := 13) C dX12_part_12 rfl ?_
    refine x_icmp_ne (pc' := 16) (tgt := 23) C dX12_part_13 rfl (by decide) (by omega) (by omega) (fun c13 => ?_) (fun c13 => ?_)
    ·
      refine x_ldc2 (pc' := 26) (z := (-1000000000000)) C dX12_part_23 rfl kc_X12_173 rfl ?_
      refine x_top (b := .long (lI (sp_part σ t))) (by unfold sp_part; first | rw [if_pos (by omega)] | rw [if_neg (by omega), if_pos (by omega)] | rw [if_neg (by omega), if_neg (by omega)]) ?_
      exact x_lret C hr dX12_part_26 ⟨rfl, rfl⟩
    ·
      refine x_aload_n (pc' := 17) C 0 dX12_part_16 rfl rfl ?_
      refine x_get (pc' := 20) C dX12_part_17 rfl ff_X12_29_11 0 rfl rfl ?_
      refine x_goto (tgt := 26) C dX12_part_20 (by decide) ?_
      refine x_top (b := .long (lI (sp_part σ t))) (by unfold sp_part; first | rw [if_pos (by omega)] | rw [if_neg (by omega), if_pos (by omega)] | rw [if_neg (by omega), if_neg (by omega)]) ?_
      exact x_lret C hr dX12_part_26 ⟨rfl, rfl⟩
  ·
    refine x_aload_n (pc' := 5) C 0 dX12_part_4 rfl rfl ?_
    refine x_get (pc' := 8) C dX12_part_5 rfl ff_X12_128_11 0 rfl rfl ?_
    refine x_goto (tgt := 26) C dX12_part_8 (by decide) ?_
    refine x_top (b := .long (lI (sp_part σ t))) (by unfold sp_part; first | rw [if_pos (by omega)] | rw [if_neg (by omega), if_pos (by omega)] | rw [if_neg (by omega), if_neg (by omega)]) ?_
    exact x_lret C hr dX12_part_26 ⟨rfl, rfl⟩

set_option maxHeartbeats 4000000 in
set_option maxRecDepth 100000 in
theorem c_X12_count (l : Launch) (E : EV) (md : Nat → Nat) (k : Nat) (nl : Nat) (nt : Nat) (nb : Nat) (σ : AS) (mn : Nat) (pm : Nat) (μ : AS) (t : Int) (r_t : -2147483648 ≤ t ∧ t < 2147483648) (hk : k < 5) (hnl : nl ≤ 14) (hnt : nt ≤ 8) (hnb : nb ≤ 8) : MC l E yX12_count cX12_count 2 (some .int) ({ frames := 1, cells := 0, slots := 0, locals := 20 }) [.ref (md 0), .int (iI t)] [((md 0), ob 11 [.int (iI (σ 0 0)), .int (iI (k : Int)), .ref (md 1), .int (iI (nl : Int)), .ref (md 2), .ref (md 3), .int (iI (nt : Int)), .int (iI (σ 0 4)), .ref (md 4), .int (iI (nb : Int)), .long (lI (σ 0 6)), .long (lI (σ 0 7)), .ref (md 5), .ref (md 6), .ref (md 7), .ref (md 8), .int (iI (mn : Int)), .ref (md 9), .ref (md 10), .ref (md 11), .int (iI (pm : Int)), .long (lI (μ 0 0)), .long (lI (μ 0 1)), .long (lI (μ 0 2)), .long (lI (μ 0 3))])] (fun v_ w_ => v_ = some (.int (iI (sp_count k nl nt nb t))) ∧ w_ = [((md 0), ob 11 [.int (iI (σ 0 0)), .int (iI (k : Int)), .ref (md 1), .int (iI (nl : Int)), .ref (md 2), .ref (md 3), .int (iI (nt : Int)), .int (iI (σ 0 4)), .ref (md 4), .int (iI (nb : Int)), .long (lI (σ 0 6)), .long (lI (σ 0 7)), .ref (md 5), .ref (md 6), .ref (md 7), .ref (md 8), .int (iI (mn : Int)), .ref (md 9), .ref (md 10), .ref (md 11), .int (iI (pm : Int)), .long (lI (μ 0 0)), .long (lI (μ 0 1)), .long (lI (μ 0 2)), .long (lI (μ 0 3))])]) := by
  refine MC.of (by decide +kernel) (Nat.le_of_ble_eq_true rfl) ?_
  intro p_ e_ s_ m_ args_ below_ meth_ c_ A_ C hr hnm
  have C : Cx p_ s_ m_ args_ meth_ c_ E A_ 2 cX12_count RX12 := C
  show Wx _ _ _ _ _ _ _ _ _ _ _ _ _ _ _ _ 0 [(0, .ref (md 0)), (1, .int (iI t))] [] [((md 0), ob 11 [.int (iI (σ 0 0)), .int (iI (k : Int)), .ref (md 1), .int (iI (nl : Int)), .ref (md 2), .ref (md 3), .int (iI (nt : Int)), .int (iI (σ 0 4)), .ref (md 4), .int (iI (nb : Int)), .long (lI (σ 0 6)), .long (lI (σ 0 7)), .ref (md 5), .ref (md 6), .ref (md 7), .ref (md 8), .int (iI (mn : Int)), .ref (md 9), .ref (md 10), .ref (md 11), .int (iI (pm : Int)), .long (lI (μ 0 0)), .long (lI (μ 0 1)), .long (lI (μ 0 2)), .long (lI (μ 0 3))])]
  refine x_iload_n (pc' := 1) C 1 dX12_count_0 rfl rfl ?_
  refine x_if_ne (pc' := 4) (tgt := 11) C dX12_count_1 rfl (by decide) (by omega) (fun c1 => ?_) (fun c1 => ?_)
  ·
    refine x_iload_n (pc' := 12) C 1 dX12_count_11 rfl rfl ?_
    refine x_iconst (pc' := 13) C dX12_count_12 rfl ?_
    refine x_icmp_ne (pc' := 16) (tgt := 23) C dX12_count_13 rfl (by decide) (by omega) (by omega) (fun c13 => ?_) (fun c13 => ?_)
    ·
      refine x_iload_n (pc' := 24) C 1 dX12_count_23 rfl rfl ?_
      refine x_iconst (pc' := 25) C dX12_count_24 rfl ?_
      refine x_icmp_ne (pc' := 28) (tgt := 35) C dX12_count_25 rfl (by decide) (by omega) (by omega) (fun c25 => ?_) (fun c25 => ?_)
      ·
        refine x_iload_n (pc' := 36) C 1 dX12_count_35 rfl rfl ?_
        refine x_iconst (pc' := 37) C dX12_count_36 rfl ?_
        refine x_icmp_ne (pc' := 40) (tgt := 47) C dX12_count_37 rfl (by decide) (by omega) (by omega) (fun c37 => ?_) (fun c37 => ?_)
        ·
          refine x_bipush (pc' := 49) C dX12_count_47 rfl rfl ?_
          refine x_top (b := .int (iI (sp_count k nl nt nb t))) (by unfold sp_count; first | rw [if_pos (by omega)] | rw [if_neg (by omega), if_pos (by omega)] | rw [if_neg (by omega), if_neg (by omega), if_pos (by omega)] | rw [if_neg (by omega), if_neg (by omega), if_neg (by omega), if_pos (by omega)] | rw [if_neg (by omega), if_neg (by omega), if_neg (by omega), if_neg (by omega)]) ?_
          exact x_iret C hr dX12_count_49 ⟨rfl, rfl⟩
        ·
          refine x_aload_n (pc' := 41) C 0 dX12_count_40 rfl rfl ?_
          refine x_callV (pc' := 44) (As := []) (rest := []) (q0 := 0) C rfl rfl cv_X12_89_X12 dX12_count_41 rfl (c_X12_parts l E md k nl nt nb σ mn pm μ (show k < 5 from by omega) (show nl ≤ 14 from by omega) (show nt ≤ 8 from by omega) (show nb ≤ 8 from by omega)) mm_X12_parts (hstk := rfl) (hlen := rfl) (hcat := Nat.le_of_ble_eq_true rfl) (isC := [0]) (isR := []) (wr := []) (hC := rfl) (hR := rfl) (hnC := rfl) (hn := rfl) (hdis := by decide) (hR1 := ⟨Nat.le_of_ble_eq_true rfl, Nat.le_of_ble_eq_true rfl⟩) (hcs := ⟨Nat.le_of_ble_eq_true rfl, Nat.le_of_ble_eq_true rfl⟩) (fun v_ w_ hp_ => ?_)
          obtain ⟨rfl, rfl⟩ := hp_
          show Wx _ _ _ _ _ _ _ _ _ _ _ _ _ _ _ _ 44 [(0, .ref (md 0)), (1, .int (iI t))] [.int (iI ((npF k nl nt nb : Nat) : Int))] [((md 0), ob 11 [.int (iI (σ 0 0)), .int (iI (k : Int)), .ref (md 1), .int (iI (nl : Int)), .ref (md 2), .ref (md 3), .int (iI (nt : Int)), .int (iI (σ 0 4)), .ref (md 4), .int (iI (nb : Int)), .long (lI (σ 0 6)), .long (lI (σ 0 7)), .ref (md 5), .ref (md 6), .ref (md 7), .ref (md 8), .int (iI (mn : Int)), .ref (md 9), .ref (md 10), .ref (md 11), .int (iI (pm : Int)), .long (lI (μ 0 0)), .long (lI (μ 0 1)), .long (lI (μ 0 2)), .long (lI (μ 0 3))])]
          refine x_goto (tgt := 49) C dX12_count_44 (by decide) ?_
          refine x_top (b := .int (iI (sp_count k nl nt nb t))) (by unfold sp_count; first | rw [if_pos (by omega)] | rw [if_neg (by omega), if_pos (by omega)] | rw [if_neg (by omega), if_neg (by omega), if_pos (by omega)] | rw [if_neg (by omega), if_neg (by omega), if_neg (by omega), if_pos (by omega)] | rw [if_neg (by omega), if_neg (by omega), if_neg (by omega), if_neg (by omega)]) ?_
          exact x_iret C hr dX12_count_49 ⟨rfl, rfl⟩
      ·
        refine x_aload_n (pc' := 29) C 0 dX12_count_28 rfl rfl ?_
        refine x_get (pc' := 32) C dX12_count_29 rfl ff_X12_86_11 0 rfl rfl ?_
        refine x_goto (tgt := 49) C dX12_count_32 (by decide) ?_
        refine x_top (b := .int (iI (sp_count k nl nt nb t))) (by unfold sp_count; first | rw [if_pos (by omega)] | rw [if_neg (by omega), if_pos (by omega)] | rw [if_neg (by omega), if_neg (by omega), if_pos (by omega)] | rw [if_neg (by omega), if_neg (by omega), if_neg (by omega), if_pos (by omega)] | rw [if_neg (by omega), if_neg (by omega), if_neg (by omega), if_neg (by omega)]) ?_
        exact x_iret C hr dX12_count_49 ⟨rfl, rfl⟩
    ·
      refine x_aload_n (pc' := 17) C 0 dX12_count_16 rfl rfl ?_
      refine x_get (pc' := 20) C dX12_count_17 rfl ff_X12_81_11 0 rfl rfl ?_
      refine x_goto (tgt := 49) C dX12_count_20 (by decide) ?_
      refine x_top (b := .int (iI (sp_count k nl nt nb t))) (by unfold sp_count; first | rw [if_pos (by omega)] | rw [if_neg (by omega), if_pos (by omega)] | rw [if_neg (by omega), if_neg (by omega), if_pos (by omega)] | rw [if_neg (by omega), if_neg (by omega), if_neg (by omega), if_pos (by omega)] | rw [if_neg (by omega), if_neg (by omega), if_neg (by omega), if_neg (by omega)]) ?_
      exact x_iret C hr dX12_count_49 ⟨rfl, rfl⟩
  ·
    refine x_aload_n (pc' := 5) C 0 dX12_count_4 rfl rfl ?_
    refine x_get (pc' := 8) C dX12_count_5 rfl ff_X12_74_11 0 rfl rfl ?_
    refine x_goto (tgt := 49) C dX12_count_8 (by decide) ?_
    refine x_top (b := .int (iI (sp_count k nl nt nb t))) (by unfold sp_count; first | rw [if_pos (by omega)] | rw [if_neg (by omega), if_pos (by omega)] | rw [if_neg (by omega), if_neg (by omega), if_pos (by omega)] | rw [if_neg (by omega), if_neg (by omega), if_neg (by omega), if_pos (by omega)] | rw [if_neg (by omega), if_neg (by omega), if_neg (by omega), if_neg (by omega)]) ?_
    exact x_iret C hr dX12_count_49 ⟨rfl, rfl⟩

set_option maxHeartbeats 4000000 in
set_option maxRecDepth 100000 in
theorem c_X12_sums (l : Launch) (E : EV) (h : Nat) (len : Nat) (n : Nat) (z : Int) (f : Nat → Int) (hl : len < 1000000) (hn : n ≤ len) (hF : ∀ j : Nat, j < n → -2147483648 ≤ f j ∧ f j < 2147483648) : MC l E yX12_sums cX12_sums 7 (some .long) ({ frames := 0, cells := 0, slots := 0, locals := 0 }) [.long (lI z), .ref h, .int (iI (n : Int))] [(h, ia E len f)] (fun v_ w_ => v_ = some (.long (lI (chain f n z))) ∧ w_ = [(h, ia E len f)]) := by
  refine MC.of (by decide +kernel) (Nat.le_of_ble_eq_true rfl) ?_
  intro p_ e_ s_ m_ args_ below_ meth_ c_ A_ C hr hnm
  have C : Cx p_ s_ m_ args_ meth_ c_ E A_ 7 cX12_sums RX12 := C
  show Wx _ _ _ _ _ _ _ _ _ _ _ _ _ _ _ _ 0 [(0, .long (lI z)), (2, .ref h), (3, .int (iI (n : Int)))] [] [(h, ia E len f)]
  refine x_lload_n (pc' := 1) C 0 dX12_sums_0 rfl rfl ?_
  refine x_lstore (pc' := 3) (lv' := [(4, .long (lI z)), (0, .long (lI z)), (2, .ref h), (3, .int (iI (n : Int)))]) C dX12_sums_1 rfl (by decide) rfl ?_
  refine x_iconst (pc' := 4) C dX12_sums_3 rfl ?_
  refine x_istore (pc' := 6) (lv' := [(6, .int (iI 0)), (4, .long (lI z)), (0, .long (lI z)), (2, .ref h), (3, .int (iI (n : Int)))]) C dX12_sums_4 rfl (by decide) rfl ?_
  refine x_lv [3, 4, 1, 0] rfl ?_
  refine x_loop (α := (Nat) × (Int)) (fun a_ => (a_.1 ≤ n) ∧ (a_.2 = chain f a_.1 z)) (fun a_ => n - a_.1) (fun a_ => [(2, .ref h), (3, .int (iI (n : Int))), (4, .long (lI a_.2)), (6, .int (iI (a_.1 : Int)))]) (fun a_ => [(h, ia E len f)]) ?_ (0, z) ?_
  · intro a_ hI_ ih6
    obtain ⟨i, y⟩ := a_
    obtain ⟨hi, hy⟩ := hI_
    replace hi : i ≤ n := hi
    replace hy : y = chain f i z := hy
    show Wx _ _ _ _ _ _ _ _ _ _ _ _ _ _ _ _ 6 [(2, .ref h), (3, .int (iI (n : Int))), (4, .long (lI y)), (6, .int (iI (i : Int)))] [] [(h, ia E len f)]
    refine x_iload (pc' := 8) C 3 dX12_sums_6 rfl rfl ?_
    refine x_iload_n (pc' := 9) C 1 dX12_sums_8 rfl rfl ?_
    refine x_icmp_ge (pc' := 12) (tgt := 32) C dX12_sums_9 rfl (by decide) (by omega) (by omega) (fun c9 => ?_) (fun c9 => ?_)
    ·
      refine x_lload (pc' := 34) C 2 dX12_sums_32 rfl rfl ?_
      refine x_top (b := .long (lI (chain f n z))) (by rw [hy, show i = n by omega]) ?_
      exact x_lret C hr dX12_sums_34 ⟨rfl, rfl⟩
    ·
      refine x_ldc2 (pc' := 15) (z := 31) C dX12_sums_12 rfl kc_X12_175 rfl ?_
      refine x_lload (pc' := 17) C 2 dX12_sums_15 rfl rfl ?_
      refine x_lmul (pc' := 18) C dX12_sums_17 rfl ?_
      refine x_aload_n (pc' := 19) C 0 dX12_sums_18 rfl rfl ?_
      refine x_iload (pc' := 21) C 3 dX12_sums_19 rfl rfl ?_
      have hF1 := hF i (by omega)
      refine x_iald (pc' := 22) C i dX12_sums_21 rfl 0 rfl (by omega) (by omega) (by omega) ?_
      refine x_i2l (pc' := 23) C dX12_sums_22 rfl (by omega) ?_
      refine x_ladd (pc' := 24) C dX12_sums_23 rfl ?_
      refine x_lstore (pc' := 26) (lv' := [(4, .long (lI ((31 * y) + (f i)))), (2, .ref h), (3, .int (iI (n : Int))), (6, .int (iI (i : Int)))]) C dX12_sums_24 rfl (by decide) rfl ?_
      refine x_iinc (pc' := 29) (lv' := [(6, .int (iI ((i : Int) + 1))), (4, .long (lI ((31 * y) + (f i)))), (2, .ref h), (3, .int (iI (n : Int)))]) C 3 dX12_sums_26 rfl (by decide) rfl rfl ?_
      refine x_lvI (lv' := [(6, .int (iI ((i + 1 : Nat) : Int))), (4, .long (lI ((31 * y) + (f i)))), (2, .ref h), (3, .int (iI (n : Int)))]) 0 rfl (by omega) rfl ?_
      refine x_goto (tgt := 6) C dX12_sums_29 (by decide) ?_
      refine x_lv [2, 3, 1, 0] rfl ?_
      exact ih6 ((i + 1), ((31 * y) + (f i))) ⟨(show (i + 1) ≤ n from by omega), (show ((31 * y) + (f i)) = chain f (i + 1) z from by rw [hy]; rfl)⟩ (show n - (i + 1) < n - i from by omega)
  · exact ⟨(show 0 ≤ n from by omega), (show z = chain f 0 z from rfl)⟩

set_option maxHeartbeats 4000000 in
set_option maxRecDepth 100000 in
theorem c_X12_digest (l : Launch) (E : EV) (md : Nat → Nat) (k : Nat) (nl : Nat) (nt : Nat) (nb : Nat) (σ : AS) (mn : Nat) (pm : Nat) (μ : AS) (hs : SI k nl nt nb σ) : MC l E yX12_digest cX12_digest 4 (some .long) ({ frames := 2, cells := 0, slots := 0, locals := 41 }) [.ref (md 0)] [((md 0), ob 11 [.int (iI (σ 0 0)), .int (iI (k : Int)), .ref (md 1), .int (iI (nl : Int)), .ref (md 2), .ref (md 3), .int (iI (nt : Int)), .int (iI (σ 0 4)), .ref (md 4), .int (iI (nb : Int)), .long (lI (σ 0 6)), .long (lI (σ 0 7)), .ref (md 5), .ref (md 6), .ref (md 7), .ref (md 8), .int (iI (mn : Int)), .ref (md 9), .ref (md 10), .ref (md 11), .int (iI (pm : Int)), .long (lI (μ 0 0)), .long (lI (μ 0 1)), .long (lI (μ 0 2)), .long (lI (μ 0 3))]), ((md 1), ia E 56 (mI 1 4 σ)), ((md 2), ia E 32 (mI 5 2 σ)), ((md 3), ia E 24 (mI 7 3 σ)), ((md 4), ia E 24 (mI 10 3 σ))] (fun v_ w_ => v_ = some (.long (lI (sp_digest k nl nt nb σ))) ∧ w_ = [((md 0), ob 11 [.int (iI (σ 0 0)), .int (iI (k : Int)), .ref (md 1), .int (iI (nl : Int)), .ref (md 2), .ref (md 3), .int (iI (nt : Int)), .int (iI (σ 0 4)), .ref (md 4), .int (iI (nb : Int)), .long (lI (σ 0 6)), .long (lI (σ 0 7)), .ref (md 5), .ref (md 6), .ref (md 7), .ref (md 8), .int (iI (mn : Int)), .ref (md 9), .ref (md 10), .ref (md 11), .int (iI (pm : Int)), .long (lI (μ 0 0)), .long (lI (μ 0 1)), .long (lI (μ 0 2)), .long (lI (μ 0 3))]), ((md 1), ia E 56 (mI 1 4 σ)), ((md 2), ia E 32 (mI 5 2 σ)), ((md 3), ia E 24 (mI 7 3 σ)), ((md 4), ia E 24 (mI 10 3 σ))]) := by
  refine MC.of (by decide +kernel) (Nat.le_of_ble_eq_true rfl) ?_
  intro p_ e_ s_ m_ args_ below_ meth_ c_ A_ C hr hnm
  have C : Cx p_ s_ m_ args_ meth_ c_ E A_ 4 cX12_digest RX12 := C
  obtain ⟨hk, hnl, hnt, hnb, h00, h04, h1, h2, h12, h3, h4, h5, h6, h7, h8, h9, h10, h11, h12b⟩ := hs
  have hnp := npF_le (k := k) hnl hnt hnb
  show Wx _ _ _ _ _ _ _ _ _ _ _ _ _ _ _ _ 0 [(0, .ref (md 0))] [] [((md 0), ob 11 [.int (iI (σ 0 0)), .int (iI (k : Int)), .ref (md 1), .int (iI (nl : Int)), .ref (md 2), .ref (md 3), .int (iI (nt : Int)), .int (iI (σ 0 4)), .ref (md 4), .int (iI (nb : Int)), .long (lI (σ 0 6)), .long (lI (σ 0 7)), .ref (md 5), .ref (md 6), .ref (md 7), .ref (md 8), .int (iI (mn : Int)), .ref (md 9), .ref (md 10), .ref (md 11), .int (iI (pm : Int)), .long (lI (μ 0 0)), .long (lI (μ 0 1)), .long (lI (μ 0 2)), .long (lI (μ 0 3))]), ((md 1), ia E 56 (mI 1 4 σ)), ((md 2), ia E 32 (mI 5 2 σ)), ((md 3), ia E 24 (mI 7 3 σ)), ((md 4), ia E 24 (mI 10 3 σ))]
  refine x_ldc2 (pc' := 3) (z := 31) C dX12_digest_0 rfl kc_X12_175 rfl ?_
  refine x_ldc2 (pc' := 6) (z := 13733) C dX12_digest_3 rfl kc_X12_177 rfl ?_
  refine x_aload_n (pc' := 7) C 0 dX12_digest_6 rfl rfl ?_
  refine x_get (pc' := 10) C dX12_digest_7 rfl ff_X12_7_11 0 rfl rfl ?_
  refine x_i2l (pc' := 11) C dX12_digest_10 rfl (by omega) ?_
  refine x_ladd (pc' := 12) C dX12_digest_11 rfl ?_
  refine x_lmul (pc' := 13) C dX12_digest_12 rfl ?_
  refine x_aload_n (pc' := 14) C 0 dX12_digest_13 rfl rfl ?_
  refine x_get (pc' := 17) C dX12_digest_14 rfl ff_X12_65_11 0 rfl rfl ?_
  refine x_i2l (pc' := 18) C dX12_digest_17 rfl (by omega) ?_
  refine x_ladd (pc' := 19) C dX12_digest_18 rfl ?_
  refine x_lstore_n (pc' := 20) (lv' := [(1, .long (lI ((31 * (13733 + (σ 0 0))) + (k : Int)))), (0, .ref (md 0))]) C dX12_digest_19 rfl (by decide) rfl ?_
  refine x_iconst (pc' := 21) C dX12_digest_20 rfl ?_
  refine x_istore_n (pc' := 22) (lv' := [(3, .int (iI 0)), (1, .long (lI ((31 * (13733 + (σ 0 0))) + (k : Int)))), (0, .ref (md 0))]) C dX12_digest_21 rfl (by decide) rfl ?_
  refine x_lv [2, 1, 0] rfl ?_
  refine x_loop (α := (Nat) × (Int)) (fun a_ => (a_.1 ≤ 4) ∧ (a_.2 = chain (fun j_ : Nat => sp_count k nl nt nb (j_ : Int)) a_.1 (mx (mx 443 (σ 0 0)) (k : Int)))) (fun a_ => 4 - a_.1) (fun a_ => [(0, .ref (md 0)), (1, .long (lI a_.2)), (3, .int (iI (a_.1 : Int)))]) (fun a_ => [((md 0), ob 11 [.int (iI (σ 0 0)), .int (iI (k : Int)), .ref (md 1), .int (iI (nl : Int)), .ref (md 2), .ref (md 3), .int (iI (nt : Int)), .int (iI (σ 0 4)), .ref (md 4), .int (iI (nb : Int)), .long (lI (σ 0 6)), .long (lI (σ 0 7)), .ref (md 5), .ref (md 6), .ref (md 7), .ref (md 8), .int (iI (mn : Int)), .ref (md 9), .ref (md 10), .ref (md 11), .int (iI (pm : Int)), .long (lI (μ 0 0)), .long (lI (μ 0 1)), .long (lI (μ 0 2)), .long (lI (μ 0 3))]), ((md 1), ia E 56 (mI 1 4 σ)), ((md 2), ia E 32 (mI 5 2 σ)), ((md 3), ia E 24 (mI 7 3 σ)), ((md 4), ia E 24 (mI 10 3 σ))]) ?_ (0, ((31 * (13733 + (σ 0 0))) + (k : Int))) ?_
  · intro a_ hI_ ih22
    obtain ⟨i, y⟩ := a_
    obtain ⟨hi, hy⟩ := hI_
    replace hi : i ≤ 4 := hi
    replace hy : y = chain (fun j_ : Nat => sp_count k nl nt nb (j_ : Int)) i (mx (mx 443 (σ 0 0)) (k : Int)) := hy
    show Wx _ _ _ _ _ _ _ _ _ _ _ _ _ _ _ _ 22 [(0, .ref (md 0)), (1, .long (lI y)), (3, .int (iI (i : Int)))] [] [((md 0), ob 11 [.int (iI (σ 0 0)), .int (iI (k : Int)), .ref (md 1), .int (iI (nl : Int)), .ref (md 2), .ref (md 3), .int (iI (nt : Int)), .int (iI (σ 0 4)), .ref (md 4), .int (iI (nb : Int)), .long (lI (σ 0 6)), .long (lI (σ 0 7)), .ref (md 5), .ref (md 6), .ref (md 7), .ref (md 8), .int (iI (mn : Int)), .ref (md 9), .ref (md 10), .ref (md 11), .int (iI (pm : Int)), .long (lI (μ 0 0)), .long (lI (μ 0 1)), .long (lI (μ 0 2)), .long (lI (μ 0 3))]), ((md 1), ia E 56 (mI 1 4 σ)), ((md 2), ia E 32 (mI 5 2 σ)), ((md 3), ia E 24 (mI 7 3 σ)), ((md 4), ia E 24 (mI 10 3 σ))]
    refine x_iload_n (pc' := 23) C 2 dX12_digest_22 rfl rfl ?_
    refine x_iconst (pc' := 24) C dX12_digest_23 rfl ?_
    refine x_icmp_ge (pc' := 27) (tgt := 46) C dX12_digest_24 rfl (by decide) (by omega) (by omega) (fun c24 => ?_) (fun c24 => ?_)
    ·
      refine x_lload_n (pc' := 47) C 1 dX12_digest_46 rfl rfl ?_
      refine x_aload_n (pc' := 48) C 0 dX12_digest_47 rfl rfl ?_
      refine x_get (pc' := 51) C dX12_digest_48 rfl ff_X12_13_11 0 rfl rfl ?_
      refine x_iconst (pc' := 52) C dX12_digest_51 rfl ?_
      refine x_aload_n (pc' := 53) C 0 dX12_digest_52 rfl rfl ?_
      refine x_get (pc' := 56) C dX12_digest_53 rfl ff_X12_74_11 0 rfl rfl ?_
      refine x_imul (pc' := 57) C dX12_digest_56 rfl ?_
      refine x_stI (st' := [.int (iI ((4 * nl : Nat) : Int)), .ref (md 1), .long (lI y)]) 0 rfl (by omega) rfl ?_
      refine x_callS (pc' := 60) (As := [.long (lI y), .ref (md 1), .int (iI ((4 * nl : Nat) : Int))]) (rest := []) C cs_X12_182 dX12_digest_57 rfl (c_X12_sums l E (md 1) 56 (4 * nl) y (mI 1 4 σ) (show 56 < 1000000 from by omega) (show (4 * nl) ≤ 56 from by omega) (show ∀ j : Nat, j < (4 * nl) → -2147483648 ≤ (mI 1 4 σ) j ∧ (mI 1 4 σ) j < 2147483648 from mI_bd (by decide) (fun d i hd hi => lt4 (P := fun d => -2147483648 ≤ σ (1 + d) i ∧ σ (1 + d) i < 2147483648) (show -2147483648 ≤ σ 1 i ∧ σ 1 i < 2147483648 by have := h1 i hi; omega) (show -2147483648 ≤ σ 2 i ∧ σ 2 i < 2147483648 by have := h2 i hi; omega) (show -2147483648 ≤ σ 3 i ∧ σ 3 i < 2147483648 by have := h3 i hi; omega) (show -2147483648 ≤ σ 4 i ∧ σ 4 i < 2147483648 by have := h4 i hi; omega) d hd))) mm_X12_sums (hstk := rfl) (hlen := rfl) (hcat := Nat.le_of_ble_eq_true rfl) (isC := [1]) (isR := [0, 2, 3, 4]) (wr := [((md 0), ob 11 [.int (iI (σ 0 0)), .int (iI (k : Int)), .ref (md 1), .int (iI (nl : Int)), .ref (md 2), .ref (md 3), .int (iI (nt : Int)), .int (iI (σ 0 4)), .ref (md 4), .int (iI (nb : Int)), .long (lI (σ 0 6)), .long (lI (σ 0 7)), .ref (md 5), .ref (md 6), .ref (md 7), .ref (md 8), .int (iI (mn : Int)), .ref (md 9), .ref (md 10), .ref (md 11), .int (iI (pm : Int)), .long (lI (μ 0 0)), .long (lI (μ 0 1)), .long (lI (μ 0 2)), .long (lI (μ 0 3))]), ((md 2), ia E 32 (mI 5 2 σ)), ((md 3), ia E 24 (mI 7 3 σ)), ((md 4), ia E 24 (mI 10 3 σ))]) (hC := rfl) (hR := rfl) (hnC := rfl) (hn := rfl) (hdis := by decide) (hR1 := ⟨Nat.le_of_ble_eq_true rfl, Nat.le_of_ble_eq_true rfl⟩) (hcs := ⟨Nat.le_of_ble_eq_true rfl, Nat.le_of_ble_eq_true rfl⟩) (fun v_ w_ hp_ => ?_)
      obtain ⟨rfl, rfl⟩ := hp_
      show Wx _ _ _ _ _ _ _ _ _ _ _ _ _ _ _ _ 60 [(0, .ref (md 0)), (1, .long (lI y)), (3, .int (iI (i : Int)))] [.long (lI (chain (mI 1 4 σ) (4 * nl) y))] [((md 0), ob 11 [.int (iI (σ 0 0)), .int (iI (k : Int)), .ref (md 1), .int (iI (nl : Int)), .ref (md 2), .ref (md 3), .int (iI (nt : Int)), .int (iI (σ 0 4)), .ref (md 4), .int (iI (nb : Int)), .long (lI (σ 0 6)), .long (lI (σ 0 7)), .ref (md 5), .ref (md 6), .ref (md 7), .ref (md 8), .int (iI (mn : Int)), .ref (md 9), .ref (md 10), .ref (md 11), .int (iI (pm : Int)), .long (lI (μ 0 0)), .long (lI (μ 0 1)), .long (lI (μ 0 2)), .long (lI (μ 0 3))]), ((md 2), ia E 32 (mI 5 2 σ)), ((md 3), ia E 24 (mI 7 3 σ)), ((md 4), ia E 24 (mI 10 3 σ)), ((md 1), ia E 56 (mI 1 4 σ))]
      refine x_sub (ws' := [((md 0), ob 11 [.int (iI (σ 0 0)), .int (iI (k : Int)), .ref (md 1), .int (iI (nl : Int)), .ref (md 2), .ref (md 3), .int (iI (nt : Int)), .int (iI (σ 0 4)), .ref (md 4), .int (iI (nb : Int)), .long (lI (σ 0 6)), .long (lI (σ 0 7)), .ref (md 5), .ref (md 6), .ref (md 7), .ref (md 8), .int (iI (mn : Int)), .ref (md 9), .ref (md 10), .ref (md 11), .int (iI (pm : Int)), .long (lI (μ 0 0)), .long (lI (μ 0 1)), .long (lI (μ 0 2)), .long (lI (μ 0 3))]), ((md 1), ia E 56 (mI 1 4 σ)), ((md 2), ia E 32 (mI 5 2 σ)), ((md 3), ia E 24 (mI 7 3 σ)), ((md 4), ia E 24 (mI 10 3 σ))]) [0, 4, 1, 2, 3] rfl rfl ?_
      refine x_aload_n (pc' := 61) C 0 dX12_digest_60 rfl rfl ?_
      refine x_get (pc' := 64) C dX12_digest_61 rfl ff_X12_17_11 0 rfl rfl ?_
      refine x_bipush (pc' := 66) C dX12_digest_64 rfl rfl ?_
      refine x_callS (pc' := 69) (As := [.long (lI (chain (mI 1 4 σ) (4 * nl) y)), .ref (md 2), .int (iI 32)]) (rest := []) C cs_X12_182 dX12_digest_66 rfl (c_X12_sums l E (md 2) 32 32 (chain (mI 1 4 σ) (4 * nl) y) (mI 5 2 σ) (show 32 < 1000000 from by omega) (show 32 ≤ 32 from by omega) (show ∀ j : Nat, j < 32 → -2147483648 ≤ (mI 5 2 σ) j ∧ (mI 5 2 σ) j < 2147483648 from mI_bd (n := 16) (by decide) (fun d i hd hi => lt2 (P := fun d => -2147483648 ≤ σ (5 + d) i ∧ σ (5 + d) i < 2147483648) (show -2147483648 ≤ σ 5 i ∧ σ 5 i < 2147483648 by have := h5 i hi; omega) (show -2147483648 ≤ σ 6 i ∧ σ 6 i < 2147483648 by have := h6 i hi; omega) d hd))) mm_X12_sums (hstk := rfl) (hlen := rfl) (hcat := Nat.le_of_ble_eq_true rfl) (isC := [2]) (isR := [0, 1, 3, 4]) (wr := [((md 0), ob 11 [.int (iI (σ 0 0)), .int (iI (k : Int)), .ref (md 1), .int (iI (nl : Int)), .ref (md 2), .ref (md 3), .int (iI (nt : Int)), .int (iI (σ 0 4)), .ref (md 4), .int (iI (nb : Int)), .long (lI (σ 0 6)), .long (lI (σ 0 7)), .ref (md 5), .ref (md 6), .ref (md 7), .ref (md 8), .int (iI (mn : Int)), .ref (md 9), .ref (md 10), .ref (md 11), .int (iI (pm : Int)), .long (lI (μ 0 0)), .long (lI (μ 0 1)), .long (lI (μ 0 2)), .long (lI (μ 0 3))]), ((md 1), ia E 56 (mI 1 4 σ)), ((md 3), ia E 24 (mI 7 3 σ)), ((md 4), ia E 24 (mI 10 3 σ))]) (hC := rfl) (hR := rfl) (hnC := rfl) (hn := rfl) (hdis := by decide) (hR1 := ⟨Nat.le_of_ble_eq_true rfl, Nat.le_of_ble_eq_true rfl⟩) (hcs := ⟨Nat.le_of_ble_eq_true rfl, Nat.le_of_ble_eq_true rfl⟩) (fun v_ w_ hp_ => ?_)
      obtain ⟨rfl, rfl⟩ := hp_
      show Wx _ _ _ _ _ _ _ _ _ _ _ _ _ _ _ _ 69 [(0, .ref (md 0)), (1, .long (lI y)), (3, .int (iI (i : Int)))] [.long (lI (chain (mI 5 2 σ) 32 (chain (mI 1 4 σ) (4 * nl) y)))] [((md 0), ob 11 [.int (iI (σ 0 0)), .int (iI (k : Int)), .ref (md 1), .int (iI (nl : Int)), .ref (md 2), .ref (md 3), .int (iI (nt : Int)), .int (iI (σ 0 4)), .ref (md 4), .int (iI (nb : Int)), .long (lI (σ 0 6)), .long (lI (σ 0 7)), .ref (md 5), .ref (md 6), .ref (md 7), .ref (md 8), .int (iI (mn : Int)), .ref (md 9), .ref (md 10), .ref (md 11), .int (iI (pm : Int)), .long (lI (μ 0 0)), .long (lI (μ 0 1)), .long (lI (μ 0 2)), .long (lI (μ 0 3))]), ((md 1), ia E 56 (mI 1 4 σ)), ((md 3), ia E 24 (mI 7 3 σ)), ((md 4), ia E 24 (mI 10 3 σ)), ((md 2), ia E 32 (mI 5 2 σ))]
      refine x_sub (ws' := [((md 0), ob 11 [.int (iI (σ 0 0)), .int (iI (k : Int)), .ref (md 1), .int (iI (nl : Int)), .ref (md 2), .ref (md 3), .int (iI (nt : Int)), .int (iI (σ 0 4)), .ref (md 4), .int (iI (nb : Int)), .long (lI (σ 0 6)), .long (lI (σ 0 7)), .ref (md 5), .ref (md 6), .ref (md 7), .ref (md 8), .int (iI (mn : Int)), .ref (md 9), .ref (md 10), .ref (md 11), .int (iI (pm : Int)), .long (lI (μ 0 0)), .long (lI (μ 0 1)), .long (lI (μ 0 2)), .long (lI (μ 0 3))]), ((md 1), ia E 56 (mI 1 4 σ)), ((md 2), ia E 32 (mI 5 2 σ)), ((md 3), ia E 24 (mI 7 3 σ)), ((md 4), ia E 24 (mI 10 3 σ))]) [0, 1, 4, 2, 3] rfl rfl ?_
      refine x_lstore_n (pc' := 70) (lv' := [(1, .long (lI (chain (mI 5 2 σ) 32 (chain (mI 1 4 σ) (4 * nl) y)))), (0, .ref (md 0)), (3, .int (iI (i : Int)))]) C dX12_digest_69 rfl (by decide) rfl ?_
      refine x_ldc2 (pc' := 73) (z := 31) C dX12_digest_70 rfl kc_X12_175 rfl ?_
      refine x_lload_n (pc' := 74) C 0 dX12_digest_73 rfl rfl ?_
      refine x_aload_n (pc' := 75) C 1 dX12_digest_74 rfl rfl ?_
      refine x_get (pc' := 78) C dX12_digest_75 rfl ff_X12_20_11 0 rfl rfl ?_
      refine x_iconst (pc' := 79) C dX12_digest_78 rfl ?_
      refine x_aload_n (pc' := 80) C 1 dX12_digest_79 rfl rfl ?_
      refine x_get (pc' := 83) C dX12_digest_80 rfl ff_X12_81_11 0 rfl rfl ?_
      refine x_imul (pc' := 84) C dX12_digest_83 rfl ?_
      refine x_stI (st' := [.int (iI ((3 * nt : Nat) : Int)), .ref (md 3), .long (lI (chain (mI 5 2 σ) 32 (chain (mI 1 4 σ) (4 * nl) y))), .long (lI 31)]) 0 rfl (by omega) rfl ?_
      refine x_callS (pc' := 87) (As := [.long (lI (chain (mI 5 2 σ) 32 (chain (mI 1 4 σ) (4 * nl) y))), .ref (md 3), .int (iI ((3 * nt : Nat) : Int))]) (rest := [.long (lI 31)]) C cs_X12_182 dX12_digest_84 rfl (c_X12_sums l E (md 3) 24 (3 * nt) (chain (mI 5 2 σ) 32 (chain (mI 1 4 σ) (4 * nl) y)) (mI 7 3 σ) (show 24 < 1000000 from by omega) (show (3 * nt) ≤ 24 from by omega) (show ∀ j : Nat, j < (3 * nt) → -2147483648 ≤ (mI 7 3 σ) j ∧ (mI 7 3 σ) j < 2147483648 from mI_bd (by decide) (fun d i hd hi => lt3 (P := fun d => -2147483648 ≤ σ (7 + d) i ∧ σ (7 + d) i < 2147483648) (show -2147483648 ≤ σ 7 i ∧ σ 7 i < 2147483648 by have := h7 i hi; omega) (show -2147483648 ≤ σ 8 i ∧ σ 8 i < 2147483648 by have := h8 i hi; omega) (show -2147483648 ≤ σ 9 i ∧ σ 9 i < 2147483648 by have := h9 i hi; omega) d hd))) mm_X12_sums (hstk := rfl) (hlen := rfl) (hcat := Nat.le_of_ble_eq_true rfl) (isC := [3]) (isR := [0, 1, 2, 4]) (wr := [((md 0), ob 11 [.int (iI (σ 0 0)), .int (iI (k : Int)), .ref (md 1), .int (iI (nl : Int)), .ref (md 2), .ref (md 3), .int (iI (nt : Int)), .int (iI (σ 0 4)), .ref (md 4), .int (iI (nb : Int)), .long (lI (σ 0 6)), .long (lI (σ 0 7)), .ref (md 5), .ref (md 6), .ref (md 7), .ref (md 8), .int (iI (mn : Int)), .ref (md 9), .ref (md 10), .ref (md 11), .int (iI (pm : Int)), .long (lI (μ 0 0)), .long (lI (μ 0 1)), .long (lI (μ 0 2)), .long (lI (μ 0 3))]), ((md 1), ia E 56 (mI 1 4 σ)), ((md 2), ia E 32 (mI 5 2 σ)), ((md 4), ia E 24 (mI 10 3 σ))]) (hC := rfl) (hR := rfl) (hnC := rfl) (hn := rfl) (hdis := by decide) (hR1 := ⟨Nat.le_of_ble_eq_true rfl, Nat.le_of_ble_eq_true rfl⟩) (hcs := ⟨Nat.le_of_ble_eq_true rfl, Nat.le_of_ble_eq_true rfl⟩) (fun v_ w_ hp_ => ?_)
      obtain ⟨rfl, rfl⟩ := hp_
      show Wx _ _ _ _ _ _ _ _ _ _ _ _ _ _ _ _ 87 [(1, .long (lI (chain (mI 5 2 σ) 32 (chain (mI 1 4 σ) (4 * nl) y)))), (0, .ref (md 0)), (3, .int (iI (i : Int)))] [.long (lI (chain (mI 7 3 σ) (3 * nt) (chain (mI 5 2 σ) 32 (chain (mI 1 4 σ) (4 * nl) y)))), .long (lI 31)] [((md 0), ob 11 [.int (iI (σ 0 0)), .int (iI (k : Int)), .ref (md 1), .int (iI (nl : Int)), .ref (md 2), .ref (md 3), .int (iI (nt : Int)), .int (iI (σ 0 4)), .ref (md 4), .int (iI (nb : Int)), .long (lI (σ 0 6)), .long (lI (σ 0 7)), .ref (md 5), .ref (md 6), .ref (md 7), .ref (md 8), .int (iI (mn : Int)), .ref (md 9), .ref (md 10), .ref (md 11), .int (iI (pm : Int)), .long (lI (μ 0 0)), .long (lI (μ 0 1)), .long (lI (μ 0 2)), .long (lI (μ 0 3))]), ((md 1), ia E 56 (mI 1 4 σ)), ((md 2), ia E 32 (mI 5 2 σ)), ((md 4), ia E 24 (mI 10 3 σ)), ((md 3), ia E 24 (mI 7 3 σ))]
      refine x_sub (ws' := [((md 0), ob 11 [.int (iI (σ 0 0)), .int (iI (k : Int)), .ref (md 1), .int (iI (nl : Int)), .ref (md 2), .ref (md 3), .int (iI (nt : Int)), .int (iI (σ 0 4)), .ref (md 4), .int (iI (nb : Int)), .long (lI (σ 0 6)), .long (lI (σ 0 7)), .ref (md 5), .ref (md 6), .ref (md 7), .ref (md 8), .int (iI (mn : Int)), .ref (md 9), .ref (md 10), .ref (md 11), .int (iI (pm : Int)), .long (lI (μ 0 0)), .long (lI (μ 0 1)), .long (lI (μ 0 2)), .long (lI (μ 0 3))]), ((md 1), ia E 56 (mI 1 4 σ)), ((md 2), ia E 32 (mI 5 2 σ)), ((md 3), ia E 24 (mI 7 3 σ)), ((md 4), ia E 24 (mI 10 3 σ))]) [0, 1, 2, 4, 3] rfl rfl ?_
      refine x_lmul (pc' := 88) C dX12_digest_87 rfl ?_
      refine x_aload_n (pc' := 89) C 1 dX12_digest_88 rfl rfl ?_
      refine x_get (pc' := 92) C dX12_digest_89 rfl ff_X12_23_11 0 rfl rfl ?_
      refine x_i2l (pc' := 93) C dX12_digest_92 rfl (by omega) ?_
      refine x_ladd (pc' := 94) C dX12_digest_93 rfl ?_
      refine x_lstore_n (pc' := 95) (lv' := [(1, .long (lI ((31 * (chain (mI 7 3 σ) (3 * nt) (chain (mI 5 2 σ) 32 (chain (mI 1 4 σ) (4 * nl) y)))) + (σ 0 4)))), (0, .ref (md 0)), (3, .int (iI (i : Int)))]) C dX12_digest_94 rfl (by decide) rfl ?_
      refine x_lload_n (pc' := 96) C 0 dX12_digest_95 rfl rfl ?_
      refine x_aload_n (pc' := 97) C 1 dX12_digest_96 rfl rfl ?_
      refine x_get (pc' := 100) C dX12_digest_97 rfl ff_X12_26_11 0 rfl rfl ?_
      refine x_iconst (pc' := 101) C dX12_digest_100 rfl ?_
      refine x_aload_n (pc' := 102) C 1 dX12_digest_101 rfl rfl ?_
      refine x_get (pc' := 105) C dX12_digest_102 rfl ff_X12_86_11 0 rfl rfl ?_
      refine x_imul (pc' := 106) C dX12_digest_105 rfl ?_
      refine x_stI (st' := [.int (iI ((3 * nb : Nat) : Int)), .ref (md 4), .long (lI ((31 * (chain (mI 7 3 σ) (3 * nt) (chain (mI 5 2 σ) 32 (chain (mI 1 4 σ) (4 * nl) y)))) + (σ 0 4)))]) 0 rfl (by omega) rfl ?_
      refine x_callS (pc' := 109) (As := [.long (lI ((31 * (chain (mI 7 3 σ) (3 * nt) (chain (mI 5 2 σ) 32 (chain (mI 1 4 σ) (4 * nl) y)))) + (σ 0 4))), .ref (md 4), .int (iI ((3 * nb : Nat) : Int))]) (rest := []) C cs_X12_182 dX12_digest_106 rfl (c_X12_sums l E (md 4) 24 (3 * nb) ((31 * (chain (mI 7 3 σ) (3 * nt) (chain (mI 5 2 σ) 32 (chain (mI 1 4 σ) (4 * nl) y)))) + (σ 0 4)) (mI 10 3 σ) (show 24 < 1000000 from by omega) (show (3 * nb) ≤ 24 from by omega) (show ∀ j : Nat, j < (3 * nb) → -2147483648 ≤ (mI 10 3 σ) j ∧ (mI 10 3 σ) j < 2147483648 from mI_bd (by decide) (fun d i hd hi => lt3 (P := fun d => -2147483648 ≤ σ (10 + d) i ∧ σ (10 + d) i < 2147483648) (show -2147483648 ≤ σ 10 i ∧ σ 10 i < 2147483648 by have := h10 i hi; omega) (show -2147483648 ≤ σ 11 i ∧ σ 11 i < 2147483648 by have := h11 i hi; omega) (show -2147483648 ≤ σ 12 i ∧ σ 12 i < 2147483648 by have := h12b i hi; omega) d hd))) mm_X12_sums (hstk := rfl) (hlen := rfl) (hcat := Nat.le_of_ble_eq_true rfl) (isC := [4]) (isR := [0, 1, 2, 3]) (wr := [((md 0), ob 11 [.int (iI (σ 0 0)), .int (iI (k : Int)), .ref (md 1), .int (iI (nl : Int)), .ref (md 2), .ref (md 3), .int (iI (nt : Int)), .int (iI (σ 0 4)), .ref (md 4), .int (iI (nb : Int)), .long (lI (σ 0 6)), .long (lI (σ 0 7)), .ref (md 5), .ref (md 6), .ref (md 7), .ref (md 8), .int (iI (mn : Int)), .ref (md 9), .ref (md 10), .ref (md 11), .int (iI (pm : Int)), .long (lI (μ 0 0)), .long (lI (μ 0 1)), .long (lI (μ 0 2)), .long (lI (μ 0 3))]), ((md 1), ia E 56 (mI 1 4 σ)), ((md 2), ia E 32 (mI 5 2 σ)), ((md 3), ia E 24 (mI 7 3 σ))]) (hC := rfl) (hR := rfl) (hnC := rfl) (hn := rfl) (hdis := by decide) (hR1 := ⟨Nat.le_of_ble_eq_true rfl, Nat.le_of_ble_eq_true rfl⟩) (hcs := ⟨Nat.le_of_ble_eq_true rfl, Nat.le_of_ble_eq_true rfl⟩) (fun v_ w_ hp_ => ?_)
      obtain ⟨rfl, rfl⟩ := hp_
      show Wx _ _ _ _ _ _ _ _ _ _ _ _ _ _ _ _ 109 [(1, .long (lI ((31 * (chain (mI 7 3 σ) (3 * nt) (chain (mI 5 2 σ) 32 (chain (mI 1 4 σ) (4 * nl) y)))) + (σ 0 4)))), (0, .ref (md 0)), (3, .int (iI (i : Int)))] [.long (lI (chain (mI 10 3 σ) (3 * nb) ((31 * (chain (mI 7 3 σ) (3 * nt) (chain (mI 5 2 σ) 32 (chain (mI 1 4 σ) (4 * nl) y)))) + (σ 0 4))))] [((md 0), ob 11 [.int (iI (σ 0 0)), .int (iI (k : Int)), .ref (md 1), .int (iI (nl : Int)), .ref (md 2), .ref (md 3), .int (iI (nt : Int)), .int (iI (σ 0 4)), .ref (md 4), .int (iI (nb : Int)), .long (lI (σ 0 6)), .long (lI (σ 0 7)), .ref (md 5), .ref (md 6), .ref (md 7), .ref (md 8), .int (iI (mn : Int)), .ref (md 9), .ref (md 10), .ref (md 11), .int (iI (pm : Int)), .long (lI (μ 0 0)), .long (lI (μ 0 1)), .long (lI (μ 0 2)), .long (lI (μ 0 3))]), ((md 1), ia E 56 (mI 1 4 σ)), ((md 2), ia E 32 (mI 5 2 σ)), ((md 3), ia E 24 (mI 7 3 σ)), ((md 4), ia E 24 (mI 10 3 σ))]
      refine x_lstore_n (pc' := 110) (lv' := [(1, .long (lI (chain (mI 10 3 σ) (3 * nb) ((31 * (chain (mI 7 3 σ) (3 * nt) (chain (mI 5 2 σ) 32 (chain (mI 1 4 σ) (4 * nl) y)))) + (σ 0 4))))), (0, .ref (md 0)), (3, .int (iI (i : Int)))]) C dX12_digest_109 rfl (by decide) rfl ?_
      refine x_ldc2 (pc' := 113) (z := 31) C dX12_digest_110 rfl kc_X12_175 rfl ?_
      refine x_ldc2 (pc' := 116) (z := 31) C dX12_digest_113 rfl kc_X12_175 rfl ?_
      refine x_lload_n (pc' := 117) C 0 dX12_digest_116 rfl rfl ?_
      refine x_lmul (pc' := 118) C dX12_digest_117 rfl ?_
      refine x_aload_n (pc' := 119) C 1 dX12_digest_118 rfl rfl ?_
      refine x_get (pc' := 122) C dX12_digest_119 rfl ff_X12_128_11 0 rfl rfl ?_
      refine x_ladd (pc' := 123) C dX12_digest_122 rfl ?_
      refine x_lmul (pc' := 124) C dX12_digest_123 rfl ?_
      refine x_aload_n (pc' := 125) C 1 dX12_digest_124 rfl rfl ?_
      refine x_get (pc' := 128) C dX12_digest_125 rfl ff_X12_29_11 0 rfl rfl ?_
      refine x_ladd (pc' := 129) C dX12_digest_128 rfl ?_
      refine x_top (b := .long (lI (sp_digest k nl nt nb σ))) (by rw [hy, show i = 4 by omega, chain_4 σ 1, show (32 : Nat) = 2 * 16 from rfl, chain_2 σ 5, chain_3 σ 7, chain_3 σ 10]; rfl) ?_
      exact x_lret C hr dX12_digest_129 ⟨rfl, rfl⟩
    ·
      refine x_ldc2 (pc' := 30) (z := 31) C dX12_digest_27 rfl kc_X12_175 rfl ?_
      refine x_lload_n (pc' := 31) C 1 dX12_digest_30 rfl rfl ?_
      refine x_lmul (pc' := 32) C dX12_digest_31 rfl ?_
      refine x_aload_n (pc' := 33) C 0 dX12_digest_32 rfl rfl ?_
      refine x_iload_n (pc' := 34) C 2 dX12_digest_33 rfl rfl ?_
      refine x_callV (pc' := 37) (As := [.int (iI (i : Int))]) (rest := [.long (lI (31 * y))]) (q0 := 0) C rfl rfl cv_X12_179_X12 dX12_digest_34 rfl (c_X12_count l E md k nl nt nb σ mn pm μ (i : Int) (show -2147483648 ≤ (i : Int) ∧ (i : Int) < 2147483648 from by omega) (show k < 5 from by omega) (show nl ≤ 14 from by omega) (show nt ≤ 8 from by omega) (show nb ≤ 8 from by omega)) mm_X12_count (hstk := rfl) (hlen := rfl) (hcat := Nat.le_of_ble_eq_true rfl) (isC := [0]) (isR := [1, 2, 3, 4]) (wr := [((md 1), ia E 56 (mI 1 4 σ)), ((md 2), ia E 32 (mI 5 2 σ)), ((md 3), ia E 24 (mI 7 3 σ)), ((md 4), ia E 24 (mI 10 3 σ))]) (hC := rfl) (hR := rfl) (hnC := rfl) (hn := rfl) (hdis := by decide) (hR1 := ⟨Nat.le_of_ble_eq_true rfl, Nat.le_of_ble_eq_true rfl⟩) (hcs := ⟨Nat.le_of_ble_eq_true rfl, Nat.le_of_ble_eq_true rfl⟩) (fun v_ w_ hp_ => ?_)
      obtain ⟨rfl, rfl⟩ := hp_
      show Wx _ _ _ _ _ _ _ _ _ _ _ _ _ _ _ _ 37 [(0, .ref (md 0)), (1, .long (lI y)), (3, .int (iI (i : Int)))] [.int (iI (sp_count k nl nt nb (i : Int))), .long (lI (31 * y))] [((md 1), ia E 56 (mI 1 4 σ)), ((md 2), ia E 32 (mI 5 2 σ)), ((md 3), ia E 24 (mI 7 3 σ)), ((md 4), ia E 24 (mI 10 3 σ)), ((md 0), ob 11 [.int (iI (σ 0 0)), .int (iI (k : Int)), .ref (md 1), .int (iI (nl : Int)), .ref (md 2), .ref (md 3), .int (iI (nt : Int)), .int (iI (σ 0 4)), .ref (md 4), .int (iI (nb : Int)), .long (lI (σ 0 6)), .long (lI (σ 0 7)), .ref (md 5), .ref (md 6), .ref (md 7), .ref (md 8), .int (iI (mn : Int)), .ref (md 9), .ref (md 10), .ref (md 11), .int (iI (pm : Int)), .long (lI (μ 0 0)), .long (lI (μ 0 1)), .long (lI (μ 0 2)), .long (lI (μ 0 3))])]
      refine x_sub (ws' := [((md 0), ob 11 [.int (iI (σ 0 0)), .int (iI (k : Int)), .ref (md 1), .int (iI (nl : Int)), .ref (md 2), .ref (md 3), .int (iI (nt : Int)), .int (iI (σ 0 4)), .ref (md 4), .int (iI (nb : Int)), .long (lI (σ 0 6)), .long (lI (σ 0 7)), .ref (md 5), .ref (md 6), .ref (md 7), .ref (md 8), .int (iI (mn : Int)), .ref (md 9), .ref (md 10), .ref (md 11), .int (iI (pm : Int)), .long (lI (μ 0 0)), .long (lI (μ 0 1)), .long (lI (μ 0 2)), .long (lI (μ 0 3))]), ((md 1), ia E 56 (mI 1 4 σ)), ((md 2), ia E 32 (mI 5 2 σ)), ((md 3), ia E 24 (mI 7 3 σ)), ((md 4), ia E 24 (mI 10 3 σ))]) [4, 0, 1, 2, 3] rfl rfl ?_
      have hc_ : -10 ≤ sp_count k nl nt nb (i : Int) ∧ sp_count k nl nt nb (i : Int) ≤ 100 := by unfold sp_count; split <;> (try split) <;> (try split) <;> (try split) <;> omega
      refine x_i2l (pc' := 38) C dX12_digest_37 rfl (by omega) ?_
      refine x_ladd (pc' := 39) C dX12_digest_38 rfl ?_
      refine x_lstore_n (pc' := 40) (lv' := [(1, .long (lI ((31 * y) + (sp_count k nl nt nb (i : Int))))), (0, .ref (md 0)), (3, .int (iI (i : Int)))]) C dX12_digest_39 rfl (by decide) rfl ?_
      refine x_iinc (pc' := 43) (lv' := [(3, .int (iI ((i : Int) + 1))), (1, .long (lI ((31 * y) + (sp_count k nl nt nb (i : Int))))), (0, .ref (md 0))]) C 2 dX12_digest_40 rfl (by decide) rfl rfl ?_
      refine x_lvI (lv' := [(3, .int (iI ((i + 1 : Nat) : Int))), (1, .long (lI ((31 * y) + (sp_count k nl nt nb (i : Int))))), (0, .ref (md 0))]) 0 rfl (by omega) rfl ?_
      refine x_goto (tgt := 22) C dX12_digest_43 (by decide) ?_
      refine x_lv [2, 1, 0] rfl ?_
      exact ih22 ((i + 1), ((31 * y) + (sp_count k nl nt nb (i : Int)))) ⟨(show (i + 1) ≤ 4 from by omega), (show ((31 * y) + (sp_count k nl nt nb (i : Int))) = chain (fun j_ : Nat => sp_count k nl nt nb (j_ : Int)) (i + 1) (mx (mx 443 (σ 0 0)) (k : Int)) from by rw [hy]; rfl)⟩ (show 4 - (i + 1) < 4 - i from by omega)
  · exact ⟨(show 0 ≤ 4 from by omega), (show ((31 * (13733 + (σ 0 0))) + (k : Int)) = chain (fun j_ : Nat => sp_count k nl nt nb (j_ : Int)) 0 (mx (mx 443 (σ 0 0)) (k : Int)) from by unfold mx chain; omega)⟩
