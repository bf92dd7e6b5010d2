set_option maxHeartbeats 4000000 in
set_option maxRecDepth 100000 in
theorem c_X12_size (l : Launch) (E : EV) (S : Nat) (hS : S < 65536) : MC l E yX12_size cX12_size 3 (some .int) ({ frames := 0, cells := 0, slots := 0, locals := 0 }) [.int (iI (S : Int))] [] (fun v_ w_ => v_ = some (.int (iI (szf S 16))) ∧ w_ = []) := by
  refine MC.of (by decide +kernel) (Nat.le_of_ble_eq_true rfl) ?_
  intro p_ e_ s_ m_ args_ below_ meth_ c_ A_ C hr hnm
  have C : Cx p_ s_ m_ args_ meth_ c_ E A_ 3 cX12_size RX12 := C
  show Wx _ _ _ _ _ _ _ _ _ _ _ _ _ _ _ _ 0 [(0, .int (iI (S : Int)))] [] []
  refine x_iconst (pc' := 1) C dX12_size_0 rfl ?_
  refine x_istore_n (pc' := 2) (lv' := [(1, .int (iI 0)), (0, .int (iI (S : Int)))]) C dX12_size_1 rfl (by decide) rfl ?_
  refine x_iconst (pc' := 3) C dX12_size_2 rfl ?_
  refine x_istore_n (pc' := 4) (lv' := [(2, .int (iI 0)), (1, .int (iI 0)), (0, .int (iI (S : Int)))]) C dX12_size_3 rfl (by decide) rfl ?_
  refine x_lv [2, 1, 0] rfl ?_
  refine x_loop (α := (Nat) × (Int)) (fun a_ => (a_.1 ≤ 16) ∧ (a_.2 = szf S a_.1)) (fun a_ => 16 - a_.1) (fun a_ => [(0, .int (iI (S : Int))), (1, .int (iI a_.2)), (2, .int (iI (a_.1 : Int)))]) (fun a_ => []) ?_ (0, 0) ?_
  · intro a_ hI_ ih4
    obtain ⟨i, z⟩ := a_
    obtain ⟨hi, hz⟩ := hI_
    replace hi : i ≤ 16 := hi
    replace hz : z = szf S i := hz
    show Wx _ _ _ _ _ _ _ _ _ _ _ _ _ _ _ _ 4 [(0, .int (iI (S : Int))), (1, .int (iI z)), (2, .int (iI (i : Int)))] [] []
    refine x_iload_n (pc' := 5) C 2 dX12_size_4 rfl rfl ?_
    refine x_bipush (pc' := 7) C dX12_size_5 rfl rfl ?_
    refine x_icmp_ge (pc' := 10) (tgt := 24) C dX12_size_7 rfl (by decide) (by omega) (by omega) (fun c7 => ?_) (fun c7 => ?_)
    ·
      refine x_iload_n (pc' := 25) C 1 dX12_size_24 rfl rfl ?_
      refine x_top (b := .int (iI (szf S 16))) (by rw [hz, show i = 16 by omega]) ?_
      exact x_iret C hr dX12_size_25 ⟨rfl, rfl⟩
    ·
      refine x_iload_n (pc' := 11) C 1 dX12_size_10 rfl rfl ?_
      refine x_iload_n (pc' := 12) C 0 dX12_size_11 rfl rfl ?_
      refine x_iload_n (pc' := 13) C 2 dX12_size_12 rfl rfl ?_
      refine x_ishr (pc' := 14) (z := (iI ((S / 2 ^ i : Nat) : Int))) C dX12_size_13 rfl (bt_shr (by omega) (by omega)) ?_
      refine x_iconst (pc' := 15) C dX12_size_14 rfl ?_
      refine x_iand (pc' := 16) (z := (iI (bI (S.testBit i = true)))) C dX12_size_15 rfl (bt_bit) ?_
      refine x_iadd (pc' := 17) C dX12_size_16 rfl ?_
      refine x_istore_n (pc' := 18) (lv' := [(1, .int (iI (z + (bI (S.testBit i = true))))), (0, .int (iI (S : Int))), (2, .int (iI (i : Int)))]) C dX12_size_17 rfl (by decide) rfl ?_
      refine x_iinc (pc' := 21) (lv' := [(2, .int (iI ((i : Int) + 1))), (1, .int (iI (z + (bI (S.testBit i = true))))), (0, .int (iI (S : Int)))]) C 2 dX12_size_18 rfl (by decide) rfl rfl ?_
      refine x_lvI (lv' := [(2, .int (iI ((i + 1 : Nat) : Int))), (1, .int (iI (z + (bI (S.testBit i = true))))), (0, .int (iI (S : Int)))]) 0 rfl (by omega) rfl ?_
      refine x_goto (tgt := 4) C dX12_size_21 (by decide) ?_
      refine x_lv [2, 1, 0] rfl ?_
      exact ih4 ((i + 1), (z + (bI (S.testBit i = true)))) ⟨(show (i + 1) ≤ 16 from by omega), (show (z + (bI (S.testBit i = true))) = szf S (i + 1) from by rw [hz]; rfl)⟩ (show 16 - (i + 1) < 16 - i from by omega)
  · exact ⟨(show 0 ≤ 16 from by omega), (show 0 = szf S 0 from rfl)⟩

set_option maxHeartbeats 4000000 in
set_option maxRecDepth 100000 in
theorem c_X12_turned (l : Launch) (E : EV) (md : Nat → Nat) (k : Nat) (nl : Nat) (nt : Nat) (nb : Nat) (σ : AS) (mn : Nat) (pm : Nat) (μ : AS) (hk : k < 5) : MC l E yX12_turned cX12_turned 1 (some .int) ({ frames := 0, cells := 0, slots := 0, locals := 0 }) [.ref (md 0)] [((md 0), ob 11 [.int (iI (σ 0 0)), .int (iI (k : Int)), .ref (md 1), .int (iI (nl : Int)), .ref (md 2), .ref (md 3), .int (iI (nt : Int)), .int (iI (σ 0 4)), .ref (md 4), .int (iI (nb : Int)), .long (lI (σ 0 6)), .long (lI (σ 0 7)), .ref (md 5), .ref (md 6), .ref (md 7), .ref (md 8), .int (iI (mn : Int)), .ref (md 9), .ref (md 10), .ref (md 11), .int (iI (pm : Int)), .long (lI (μ 0 0)), .long (lI (μ 0 1)), .long (lI (μ 0 2)), .long (lI (μ 0 3))])] (fun v_ w_ => v_ = some (.int (iI (sgF k))) ∧ w_ = [((md 0), ob 11 [.int (iI (σ 0 0)), .int (iI (k : Int)), .ref (md 1), .int (iI (nl : Int)), .ref (md 2), .ref (md 3), .int (iI (nt : Int)), .int (iI (σ 0 4)), .ref (md 4), .int (iI (nb : Int)), .long (lI (σ 0 6)), .long (lI (σ 0 7)), .ref (md 5), .ref (md 6), .ref (md 7), .ref (md 8), .int (iI (mn : Int)), .ref (md 9), .ref (md 10), .ref (md 11), .int (iI (pm : Int)), .long (lI (μ 0 0)), .long (lI (μ 0 1)), .long (lI (μ 0 2)), .long (lI (μ 0 3))])]) := by
  refine MC.of (by decide +kernel) (Nat.le_of_ble_eq_true rfl) ?_
  intro p_ e_ s_ m_ args_ below_ meth_ c_ A_ C hr hnm
  have C : Cx p_ s_ m_ args_ meth_ c_ E A_ 1 cX12_turned RX12 := C
  show Wx _ _ _ _ _ _ _ _ _ _ _ _ _ _ _ _ 0 [(0, .ref (md 0))] [] [((md 0), ob 11 [.int (iI (σ 0 0)), .int (iI (k : Int)), .ref (md 1), .int (iI (nl : Int)), .ref (md 2), .ref (md 3), .int (iI (nt : Int)), .int (iI (σ 0 4)), .ref (md 4), .int (iI (nb : Int)), .long (lI (σ 0 6)), .long (lI (σ 0 7)), .ref (md 5), .ref (md 6), .ref (md 7), .ref (md 8), .int (iI (mn : Int)), .ref (md 9), .ref (md 10), .ref (md 11), .int (iI (pm : Int)), .long (lI (μ 0 0)), .long (lI (μ 0 1)), .long (lI (μ 0 2)), .long (lI (μ 0 3))])]
  refine x_aload_n (pc' := 1) C 0 dX12_turned_0 rfl rfl ?_
  refine x_get (pc' := 4) C dX12_turned_1 rfl ff_X12_65_11 0 rfl rfl ?_
  refine x_iconst (pc' := 5) C dX12_turned_4 rfl ?_
  refine x_icmp_ge (pc' := 8) (tgt := 12) C dX12_turned_5 rfl (by decide) (by omega) (by omega) (fun c5 => ?_) (fun c5 => ?_)
  ·
    refine x_iconst (pc' := 13) C dX12_turned_12 rfl ?_
    refine x_top (b := .int (iI (sgF k))) (by unfold sgF; first | rw [if_pos (by omega)] | rw [if_neg (by omega)]) ?_
    exact x_iret C hr dX12_turned_13 ⟨rfl, rfl⟩
  ·
    refine x_iconst (pc' := 9) C dX12_turned_8 rfl ?_
    refine x_goto (tgt := 13) C dX12_turned_9 (by decide) ?_
    refine x_top (b := .int (iI (sgF k))) (by unfold sgF; first | rw [if_pos (by omega)] | rw [if_neg (by omega)]) ?_
    exact x_iret C hr dX12_turned_13 ⟨rfl, rfl⟩

set_option maxHeartbeats 4000000 in
set_option maxRecDepth 100000 in
theorem c_X12_isLoad (l : Launch) (E : EV) (md : Nat → Nat) (k : Nat) (nl : Nat) (nt : Nat) (nb : Nat) (σ : AS) (mn : Nat) (pm : Nat) (μ : AS) (S : Nat) (hS : S < 65536) (hnt : nt ≤ 8) (hw : ∀ j_ : Nat, j_ < nt → 1 ≤ σ 7 j_ ∧ σ 7 j_ ≤ 50) (hr4 : 0 ≤ σ 0 4 ∧ σ 0 4 ≤ 200) : MC l E yX12_isLoad cX12_isLoad 4 (some .boolean) ({ frames := 0, cells := 0, slots := 0, locals := 0 }) [.ref (md 0), .int (iI (S : Int))] [((md 0), ob 11 [.int (iI (σ 0 0)), .int (iI (k : Int)), .ref (md 1), .int (iI (nl : Int)), .ref (md 2), .ref (md 3), .int (iI (nt : Int)), .int (iI (σ 0 4)), .ref (md 4), .int (iI (nb : Int)), .long (lI (σ 0 6)), .long (lI (σ 0 7)), .ref (md 5), .ref (md 6), .ref (md 7), .ref (md 8), .int (iI (mn : Int)), .ref (md 9), .ref (md 10), .ref (md 11), .int (iI (pm : Int)), .long (lI (μ 0 0)), .long (lI (μ 0 1)), .long (lI (μ 0 2)), .long (lI (μ 0 3))]), ((md 3), ia E 24 (mI 7 3 σ))] (fun v_ w_ => v_ = some (.int (iI (bI (ftL (σ 7) nt (σ 0 4) S = true)))) ∧ w_ = [((md 0), ob 11 [.int (iI (σ 0 0)), .int (iI (k : Int)), .ref (md 1), .int (iI (nl : Int)), .ref (md 2), .ref (md 3), .int (iI (nt : Int)), .int (iI (σ 0 4)), .ref (md 4), .int (iI (nb : Int)), .long (lI (σ 0 6)), .long (lI (σ 0 7)), .ref (md 5), .ref (md 6), .ref (md 7), .ref (md 8), .int (iI (mn : Int)), .ref (md 9), .ref (md 10), .ref (md 11), .int (iI (pm : Int)), .long (lI (μ 0 0)), .long (lI (μ 0 1)), .long (lI (μ 0 2)), .long (lI (μ 0 3))]), ((md 3), ia E 24 (mI 7 3 σ))]) := by
  refine MC.of (by decide +kernel) (Nat.le_of_ble_eq_true rfl) ?_
  intro p_ e_ s_ m_ args_ below_ meth_ c_ A_ C hr hnm
  have C : Cx p_ s_ m_ args_ meth_ c_ E A_ 4 cX12_isLoad RX12 := C
  show Wx _ _ _ _ _ _ _ _ _ _ _ _ _ _ _ _ 0 [(0, .ref (md 0)), (1, .int (iI (S : Int)))] [] [((md 0), ob 11 [.int (iI (σ 0 0)), .int (iI (k : Int)), .ref (md 1), .int (iI (nl : Int)), .ref (md 2), .ref (md 3), .int (iI (nt : Int)), .int (iI (σ 0 4)), .ref (md 4), .int (iI (nb : Int)), .long (lI (σ 0 6)), .long (lI (σ 0 7)), .ref (md 5), .ref (md 6), .ref (md 7), .ref (md 8), .int (iI (mn : Int)), .ref (md 9), .ref (md 10), .ref (md 11), .int (iI (pm : Int)), .long (lI (μ 0 0)), .long (lI (μ 0 1)), .long (lI (μ 0 2)), .long (lI (μ 0 3))]), ((md 3), ia E 24 (mI 7 3 σ))]
  refine x_iconst (pc' := 1) C dX12_isLoad_0 rfl ?_
  refine x_istore_n (pc' := 2) (lv' := [(2, .int (iI 0)), (0, .ref (md 0)), (1, .int (iI (S : Int)))]) C dX12_isLoad_1 rfl (by decide) rfl ?_
  refine x_iconst (pc' := 3) C dX12_isLoad_2 rfl ?_
  refine x_istore_n (pc' := 4) (lv' := [(3, .int (iI 0)), (2, .int (iI 0)), (0, .ref (md 0)), (1, .int (iI (S : Int)))]) C dX12_isLoad_3 rfl (by decide) rfl ?_
  refine x_lv [2, 3, 1, 0] rfl ?_
  refine x_loop (α := (Nat) × (Int)) (fun a_ => (a_.1 ≤ nt) ∧ (a_.2 = sumB (σ 7) S a_.1)) (fun a_ => nt - a_.1) (fun a_ => [(0, .ref (md 0)), (1, .int (iI (S : Int))), (2, .int (iI a_.2)), (3, .int (iI (a_.1 : Int)))]) (fun a_ => [((md 0), ob 11 [.int (iI (σ 0 0)), .int (iI (k : Int)), .ref (md 1), .int (iI (nl : Int)), .ref (md 2), .ref (md 3), .int (iI (nt : Int)), .int (iI (σ 0 4)), .ref (md 4), .int (iI (nb : Int)), .long (lI (σ 0 6)), .long (lI (σ 0 7)), .ref (md 5), .ref (md 6), .ref (md 7), .ref (md 8), .int (iI (mn : Int)), .ref (md 9), .ref (md 10), .ref (md 11), .int (iI (pm : Int)), .long (lI (μ 0 0)), .long (lI (μ 0 1)), .long (lI (μ 0 2)), .long (lI (μ 0 3))]), ((md 3), ia E 24 (mI 7 3 σ))]) ?_ (0, 0) ?_
  · intro a_ hI_ ih4
    obtain ⟨i, z⟩ := a_
    obtain ⟨hi, hz⟩ := hI_
    replace hi : i ≤ nt := hi
    replace hz : z = sumB (σ 7) S i := hz
    show Wx _ _ _ _ _ _ _ _ _ _ _ _ _ _ _ _ 4 [(0, .ref (md 0)), (1, .int (iI (S : Int))), (2, .int (iI z)), (3, .int (iI (i : Int)))] [] [((md 0), ob 11 [.int (iI (σ 0 0)), .int (iI (k : Int)), .ref (md 1), .int (iI (nl : Int)), .ref (md 2), .ref (md 3), .int (iI (nt : Int)), .int (iI (σ 0 4)), .ref (md 4), .int (iI (nb : Int)), .long (lI (σ 0 6)), .long (lI (σ 0 7)), .ref (md 5), .ref (md 6), .ref (md 7), .ref (md 8), .int (iI (mn : Int)), .ref (md 9), .ref (md 10), .ref (md 11), .int (iI (pm : Int)), .long (lI (μ 0 0)), .long (lI (μ 0 1)), .long (lI (μ 0 2)), .long (lI (μ 0 3))]), ((md 3), ia E 24 (mI 7 3 σ))]
    refine x_iload_n (pc' := 5) C 3 dX12_isLoad_4 rfl rfl ?_
    refine x_aload_n (pc' := 6) C 0 dX12_isLoad_5 rfl rfl ?_
    refine x_get (pc' := 9) C dX12_isLoad_6 rfl ff_X12_81_11 0 rfl rfl ?_
    refine x_icmp_ge (pc' := 12) (tgt := 35) C dX12_isLoad_9 rfl (by decide) (by omega) (by omega) (fun c9 => ?_) (fun c9 => ?_)
    ·
      have hwb := sumB_w (S := S) hw
      have hz2 : z = sumB (σ 7) S nt := by rw [hz, show i = nt by omega]
      refine x_iload_n (pc' := 36) C 2 dX12_isLoad_35 rfl rfl ?_
      refine x_aload_n (pc' := 37) C 0 dX12_isLoad_36 rfl rfl ?_
      refine x_get (pc' := 40) C dX12_isLoad_37 rfl ff_X12_23_11 0 rfl rfl ?_
      refine x_icmp_gt (pc' := 43) (tgt := 47) C dX12_isLoad_40 rfl (by decide) (by omega) (by omega) (fun c40 => ?_) (fun c40 => ?_)
      ·
        refine x_iconst (pc' := 48) C dX12_isLoad_47 rfl ?_
        refine x_top (b := .int (iI (bI (ftL (σ 7) nt (σ 0 4) S = true)))) (by unfold ftL; first | rw [bI_t (decide_eq_true (by omega))] | rw [bI_f (fun hh => by have := of_decide_eq_true hh; omega)]) ?_
        exact x_zret C (nar_bI) hr dX12_isLoad_48 ⟨rfl, rfl⟩
      ·
        refine x_iconst (pc' := 44) C dX12_isLoad_43 rfl ?_
        refine x_goto (tgt := 48) C dX12_isLoad_44 (by decide) ?_
        refine x_top (b := .int (iI (bI (ftL (σ 7) nt (σ 0 4) S = true)))) (by unfold ftL; first | rw [bI_t (decide_eq_true (by omega))] | rw [bI_f (fun hh => by have := of_decide_eq_true hh; omega)]) ?_
        exact x_zret C (nar_bI) hr dX12_isLoad_48 ⟨rfl, rfl⟩
    ·
      refine x_iload_n (pc' := 13) C 2 dX12_isLoad_12 rfl rfl ?_
      refine x_iload_n (pc' := 14) C 1 dX12_isLoad_13 rfl rfl ?_
      refine x_iload_n (pc' := 15) C 3 dX12_isLoad_14 rfl rfl ?_
      refine x_ishr (pc' := 16) (z := (iI ((S / 2 ^ i : Nat) : Int))) C dX12_isLoad_15 rfl (bt_shr (by omega) (by omega)) ?_
      refine x_iconst (pc' := 17) C dX12_isLoad_16 rfl ?_
      refine x_iand (pc' := 18) (z := (iI (bI (S.testBit i = true)))) C dX12_isLoad_17 rfl (bt_bit) ?_
      refine x_aload_n (pc' := 19) C 0 dX12_isLoad_18 rfl rfl ?_
      refine x_get (pc' := 22) C dX12_isLoad_19 rfl ff_X12_20_11 0 rfl rfl ?_
      refine x_iconst (pc' := 23) C dX12_isLoad_22 rfl ?_
      refine x_iload_n (pc' := 24) C 3 dX12_isLoad_23 rfl rfl ?_
      refine x_imul (pc' := 25) C dX12_isLoad_24 rfl ?_
      refine x_iald (pc' := 26) C (3 * i) dX12_isLoad_25 rfl 1 rfl (by omega) (by omega) (by omega) ?_
      refine x_top (b := .int (iI (σ 7 i))) (by rw [mI_at0 (by decide)]) ?_
      refine x_imul (pc' := 27) C dX12_isLoad_26 rfl ?_
      refine x_iadd (pc' := 28) C dX12_isLoad_27 rfl ?_
      refine x_istore_n (pc' := 29) (lv' := [(2, .int (iI (z + ((bI (S.testBit i = true)) * (σ 7 i))))), (0, .ref (md 0)), (1, .int (iI (S : Int))), (3, .int (iI (i : Int)))]) C dX12_isLoad_28 rfl (by decide) rfl ?_
      refine x_iinc (pc' := 32) (lv' := [(3, .int (iI ((i : Int) + 1))), (2, .int (iI (z + ((bI (S.testBit i = true)) * (σ 7 i))))), (0, .ref (md 0)), (1, .int (iI (S : Int)))]) C 3 dX12_isLoad_29 rfl (by decide) rfl rfl ?_
      refine x_lvI (lv' := [(3, .int (iI ((i + 1 : Nat) : Int))), (2, .int (iI (z + ((bI (S.testBit i = true)) * (σ 7 i))))), (0, .ref (md 0)), (1, .int (iI (S : Int)))]) 0 rfl (by omega) rfl ?_
      refine x_goto (tgt := 4) C dX12_isLoad_32 (by decide) ?_
      refine x_lv [2, 3, 1, 0] rfl ?_
      exact ih4 ((i + 1), (z + ((bI (S.testBit i = true)) * (σ 7 i)))) ⟨(show (i + 1) ≤ nt from by omega), (show (z + ((bI (S.testBit i = true)) * (σ 7 i))) = sumB (σ 7) S (i + 1) from sumB_b hz)⟩ (show nt - (i + 1) < nt - i from by omega)
  · exact ⟨(show 0 ≤ nt from by omega), (show 0 = sumB (σ 7) S 0 from rfl)⟩

set_option maxHeartbeats 4000000 in
set_option maxRecDepth 100000 in
theorem c_X12_isHeap (l : Launch) (E : EV) (md : Nat → Nat) (k : Nat) (nl : Nat) (nt : Nat) (nb : Nat) (σ : AS) (mn : Nat) (pm : Nat) (μ : AS) (S : Nat) (hS : S < 65536) (hnb : nb ≤ 8) (hw : ∀ j_ : Nat, j_ < nb → 0 ≤ σ 12 j_ ∧ σ 12 j_ < 256) : MC l E yX12_isHeap cX12_isHeap 4 (some .boolean) ({ frames := 0, cells := 0, slots := 0, locals := 0 }) [.ref (md 0), .int (iI (S : Int))] [((md 0), ob 11 [.int (iI (σ 0 0)), .int (iI (k : Int)), .ref (md 1), .int (iI (nl : Int)), .ref (md 2), .ref (md 3), .int (iI (nt : Int)), .int (iI (σ 0 4)), .ref (md 4), .int (iI (nb : Int)), .long (lI (σ 0 6)), .long (lI (σ 0 7)), .ref (md 5), .ref (md 6), .ref (md 7), .ref (md 8), .int (iI (mn : Int)), .ref (md 9), .ref (md 10), .ref (md 11), .int (iI (pm : Int)), .long (lI (μ 0 0)), .long (lI (μ 0 1)), .long (lI (μ 0 2)), .long (lI (μ 0 3))]), ((md 4), ia E 24 (mI 10 3 σ))] (fun v_ w_ => v_ = some (.int (iI (bI (ftH (σ 12) S nb = true)))) ∧ w_ = [((md 0), ob 11 [.int (iI (σ 0 0)), .int (iI (k : Int)), .ref (md 1), .int (iI (nl : Int)), .ref (md 2), .ref (md 3), .int (iI (nt : Int)), .int (iI (σ 0 4)), .ref (md 4), .int (iI (nb : Int)), .long (lI (σ 0 6)), .long (lI (σ 0 7)), .ref (md 5), .ref (md 6), .ref (md 7), .ref (md 8), .int (iI (mn : Int)), .ref (md 9), .ref (md 10), .ref (md 11), .int (iI (pm : Int)), .long (lI (μ 0 0)), .long (lI (μ 0 1)), .long (lI (μ 0 2)), .long (lI (μ 0 3))]), ((md 4), ia E 24 (mI 10 3 σ))]) := by
  refine MC.of (by decide +kernel) (Nat.le_of_ble_eq_true rfl) ?_
  intro p_ e_ s_ m_ args_ below_ meth_ c_ A_ C hr hnm
  have C : Cx p_ s_ m_ args_ meth_ c_ E A_ 4 cX12_isHeap RX12 := C
  show Wx _ _ _ _ _ _ _ _ _ _ _ _ _ _ _ _ 0 [(0, .ref (md 0)), (1, .int (iI (S : Int)))] [] [((md 0), ob 11 [.int (iI (σ 0 0)), .int (iI (k : Int)), .ref (md 1), .int (iI (nl : Int)), .ref (md 2), .ref (md 3), .int (iI (nt : Int)), .int (iI (σ 0 4)), .ref (md 4), .int (iI (nb : Int)), .long (lI (σ 0 6)), .long (lI (σ 0 7)), .ref (md 5), .ref (md 6), .ref (md 7), .ref (md 8), .int (iI (mn : Int)), .ref (md 9), .ref (md 10), .ref (md 11), .int (iI (pm : Int)), .long (lI (μ 0 0)), .long (lI (μ 0 1)), .long (lI (μ 0 2)), .long (lI (μ 0 3))]), ((md 4), ia E 24 (mI 10 3 σ))]
  refine x_iconst (pc' := 1) C dX12_isHeap_0 rfl ?_
  refine x_istore_n (pc' := 2) (lv' := [(2, .int (iI 1)), (0, .ref (md 0)), (1, .int (iI (S : Int)))]) C dX12_isHeap_1 rfl (by decide) rfl ?_
  refine x_iconst (pc' := 3) C dX12_isHeap_2 rfl ?_
  refine x_istore_n (pc' := 4) (lv' := [(3, .int (iI 0)), (2, .int (iI 1)), (0, .ref (md 0)), (1, .int (iI (S : Int)))]) C dX12_isHeap_3 rfl (by decide) rfl ?_
  refine x_lv [2, 3, 1, 0] rfl ?_
  refine x_loop (α := (Nat) × (Int)) (fun a_ => (a_.1 ≤ nb) ∧ (a_.2 = (bI (ftH (σ 12) S a_.1 = true)))) (fun a_ => nb - a_.1) (fun a_ => [(0, .ref (md 0)), (1, .int (iI (S : Int))), (2, .int (iI a_.2)), (3, .int (iI (a_.1 : Int)))]) (fun a_ => [((md 0), ob 11 [.int (iI (σ 0 0)), .int (iI (k : Int)), .ref (md 1), .int (iI (nl : Int)), .ref (md 2), .ref (md 3), .int (iI (nt : Int)), .int (iI (σ 0 4)), .ref (md 4), .int (iI (nb : Int)), .long (lI (σ 0 6)), .long (lI (σ 0 7)), .ref (md 5), .ref (md 6), .ref (md 7), .ref (md 8), .int (iI (mn : Int)), .ref (md 9), .ref (md 10), .ref (md 11), .int (iI (pm : Int)), .long (lI (μ 0 0)), .long (lI (μ 0 1)), .long (lI (μ 0 2)), .long (lI (μ 0 3))]), ((md 4), ia E 24 (mI 10 3 σ))]) ?_ (0, 1) ?_
  · intro a_ hI_ ih4
    obtain ⟨i, z⟩ := a_
    obtain ⟨hi, hz⟩ := hI_
    replace hi : i ≤ nb := hi
    replace hz : z = (bI (ftH (σ 12) S i = true)) := hz
    show Wx _ _ _ _ _ _ _ _ _ _ _ _ _ _ _ _ 4 [(0, .ref (md 0)), (1, .int (iI (S : Int))), (2, .int (iI z)), (3, .int (iI (i : Int)))] [] [((md 0), ob 11 [.int (iI (σ 0 0)), .int (iI (k : Int)), .ref (md 1), .int (iI (nl : Int)), .ref (md 2), .ref (md 3), .int (iI (nt : Int)), .int (iI (σ 0 4)), .ref (md 4), .int (iI (nb : Int)), .long (lI (σ 0 6)), .long (lI (σ 0 7)), .ref (md 5), .ref (md 6), .ref (md 7), .ref (md 8), .int (iI (mn : Int)), .ref (md 9), .ref (md 10), .ref (md 11), .int (iI (pm : Int)), .long (lI (μ 0 0)), .long (lI (μ 0 1)), .long (lI (μ 0 2)), .long (lI (μ 0 3))]), ((md 4), ia E 24 (mI 10 3 σ))]
    refine x_iload_n (pc' := 5) C 3 dX12_isHeap_4 rfl rfl ?_
    refine x_aload_n (pc' := 6) C 0 dX12_isHeap_5 rfl rfl ?_
    refine x_get (pc' := 9) C dX12_isHeap_6 rfl ff_X12_86_11 0 rfl rfl ?_
    refine x_icmp_ge (pc' := 12) (tgt := 53) C dX12_isHeap_9 rfl (by decide) (by omega) (by omega) (fun c9 => ?_) (fun c9 => ?_)
    ·
      refine x_iload_n (pc' := 54) C 2 dX12_isHeap_53 rfl rfl ?_
      refine x_top (b := .int (iI (bI (ftH (σ 12) S nb = true)))) (by rw [hz, show i = nb by omega]) ?_
      exact x_zret C (nar_bI) hr dX12_isHeap_54 ⟨rfl, rfl⟩
    ·
      refine x_iload_n (pc' := 13) C 2 dX12_isHeap_12 rfl rfl ?_
      refine x_if_eq (pc' := 16) (tgt := 45) C dX12_isHeap_13 rfl (by decide) (by rw [hz]; exact bI_rng) (fun c13 => ?_) (fun c13 => ?_)
      ·
        rw [hz] at c13
        replace c13 := bI_z c13
        refine x_iconst (pc' := 46) C dX12_isHeap_45 rfl ?_
        refine x_istore_n (pc' := 47) (lv' := [(2, .int (iI 0)), (0, .ref (md 0)), (1, .int (iI (S : Int))), (3, .int (iI (i : Int)))]) C dX12_isHeap_46 rfl (by decide) rfl ?_
        refine x_iinc (pc' := 50) (lv' := [(3, .int (iI ((i : Int) + 1))), (2, .int (iI 0)), (0, .ref (md 0)), (1, .int (iI (S : Int)))]) C 3 dX12_isHeap_47 rfl (by decide) rfl rfl ?_
        refine x_lvI (lv' := [(3, .int (iI ((i + 1 : Nat) : Int))), (2, .int (iI 0)), (0, .ref (md 0)), (1, .int (iI (S : Int)))]) 0 rfl (by omega) rfl ?_
        refine x_goto (tgt := 4) C dX12_isHeap_50 (by decide) ?_
        refine x_lv [2, 3, 1, 0] rfl ?_
        exact ih4 ((i + 1), 0) ⟨(show (i + 1) ≤ nb from by omega), (show 0 = (bI (ftH (σ 12) S (i + 1) = true)) from by first | exact (bI_f (ftH_n c13)).symm | exact (bI_t (ftH_t c13 (fun hh => c21 hh.1))).symm | exact (bI_t (ftH_t c13 (fun hh => hh.2 (by omega)))).symm | exact (bI_f (by rw [ftH_f c21 (by omega) (i + 1) (by omega)]; decide)).symm)⟩ (show nb - (i + 1) < nb - i from by omega)
      ·
        rw [hz] at c13
        replace c13 := bI_nz c13
        refine x_iload_n (pc' := 17) C 1 dX12_isHeap_16 rfl rfl ?_
        refine x_iload_n (pc' := 18) C 3 dX12_isHeap_17 rfl rfl ?_
        refine x_ishr (pc' := 19) (z := (iI ((S / 2 ^ i : Nat) : Int))) C dX12_isHeap_18 rfl (bt_shr (by omega) (by omega)) ?_
        refine x_iconst (pc' := 20) C dX12_isHeap_19 rfl ?_
        refine x_iand (pc' := 21) (z := (iI (bI (S.testBit i = true)))) C dX12_isHeap_20 rfl (bt_bit) ?_
        refine x_if_eq (pc' := 24) (tgt := 41) C dX12_isHeap_21 rfl (by decide) (bI_rng) (fun c21 => ?_) (fun c21 => ?_)
        ·
          replace c21 := bI_z c21
          refine x_iconst (pc' := 42) C dX12_isHeap_41 rfl ?_
          refine x_goto (tgt := 46) C dX12_isHeap_42 (by decide) ?_
          refine x_istore_n (pc' := 47) (lv' := [(2, .int (iI 1)), (0, .ref (md 0)), (1, .int (iI (S : Int))), (3, .int (iI (i : Int)))]) C dX12_isHeap_46 rfl (by decide) rfl ?_
          refine x_iinc (pc' := 50) (lv' := [(3, .int (iI ((i : Int) + 1))), (2, .int (iI 1)), (0, .ref (md 0)), (1, .int (iI (S : Int)))]) C 3 dX12_isHeap_47 rfl (by decide) rfl rfl ?_
          refine x_lvI (lv' := [(3, .int (iI ((i + 1 : Nat) : Int))), (2, .int (iI 1)), (0, .ref (md 0)), (1, .int (iI (S : Int)))]) 0 rfl (by omega) rfl ?_
          refine x_goto (tgt := 4) C dX12_isHeap_50 (by decide) ?_
          refine x_lv [2, 3, 1, 0] rfl ?_
          exact ih4 ((i + 1), 1) ⟨(show (i + 1) ≤ nb from by omega), (show 1 = (bI (ftH (σ 12) S (i + 1) = true)) from by first | exact (bI_f (ftH_n c13)).symm | exact (bI_t (ftH_t c13 (fun hh => c21 hh.1))).symm | exact (bI_t (ftH_t c13 (fun hh => hh.2 (by omega)))).symm | exact (bI_f (by rw [ftH_f c21 (by omega) (i + 1) (by omega)]; decide)).symm)⟩ (show nb - (i + 1) < nb - i from by omega)
        ·
          replace c21 := bI_nz c21
          refine x_aload_n (pc' := 25) C 0 dX12_isHeap_24 rfl rfl ?_
          refine x_get (pc' := 28) C dX12_isHeap_25 rfl ff_X12_26_11 0 rfl rfl ?_
          refine x_iconst (pc' := 29) C dX12_isHeap_28 rfl ?_
          refine x_iload_n (pc' := 30) C 3 dX12_isHeap_29 rfl rfl ?_
          refine x_imul (pc' := 31) C dX12_isHeap_30 rfl ?_
          refine x_iconst (pc' := 32) C dX12_isHeap_31 rfl ?_
          refine x_iadd (pc' := 33) C dX12_isHeap_32 rfl ?_
          have hw1 := hw i (by omega)
          have hsd := sdiff_le (σ 12 i).toNat S
          refine x_iald (pc' := 34) C ((3 * i) + 2) dX12_isHeap_33 rfl 1 rfl (by omega) (by omega) (by omega) ?_
          refine x_top (b := .int (iI (((σ 12 i).toNat : Nat) : Int))) (by rw [mI_at (d := 2) (by decide)]; show Value.int (iI (σ 12 i)) = _; congr 2; omega) ?_
          refine x_iload_n (pc' := 35) C 1 dX12_isHeap_34 rfl rfl ?_
          refine x_iconst (pc' := 36) C dX12_isHeap_35 rfl ?_
          refine x_ixor (pc' := 37) (z := (iI (S : Int) ^^^ iI (-1))) C dX12_isHeap_36 rfl (rfl) ?_
          refine x_iand (pc' := 38) (z := (iI ((sdiff (σ 12 i).toNat S : Nat) : Int))) C dX12_isHeap_37 rfl (bt_andn _ _) ?_
          refine x_if_ne (pc' := 41) (tgt := 45) C dX12_isHeap_38 rfl (by decide) (by omega) (fun c38 => ?_) (fun c38 => ?_)
          ·
            refine x_iconst (pc' := 46) C dX12_isHeap_45 rfl ?_
            refine x_istore_n (pc' := 47) (lv' := [(2, .int (iI 0)), (0, .ref (md 0)), (1, .int (iI (S : Int))), (3, .int (iI (i : Int)))]) C dX12_isHeap_46 rfl (by decide) rfl ?_
            refine x_iinc (pc' := 50) (lv' := [(3, .int (iI ((i : Int) + 1))), (2, .int (iI 0)), (0, .ref (md 0)), (1, .int (iI (S : Int)))]) C 3 dX12_isHeap_47 rfl (by decide) rfl rfl ?_
            refine x_lvI (lv' := [(3, .int (iI ((i + 1 : Nat) : Int))), (2, .int (iI 0)), (0, .ref (md 0)), (1, .int (iI (S : Int)))]) 0 rfl (by omega) rfl ?_
            refine x_goto (tgt := 4) C dX12_isHeap_50 (by decide) ?_
            refine x_lv [2, 3, 1, 0] rfl ?_
            exact ih4 ((i + 1), 0) ⟨(show (i + 1) ≤ nb from by omega), (show 0 = (bI (ftH (σ 12) S (i + 1) = true)) from by first | exact (bI_f (ftH_n c13)).symm | exact (bI_t (ftH_t c13 (fun hh => c21 hh.1))).symm | exact (bI_t (ftH_t c13 (fun hh => hh.2 (by omega)))).symm | exact (bI_f (by rw [ftH_f c21 (by omega) (i + 1) (by omega)]; decide)).symm)⟩ (show nb - (i + 1) < nb - i from by omega)
          ·
            refine x_iconst (pc' := 42) C dX12_isHeap_41 rfl ?_
            refine x_goto (tgt := 46) C dX12_isHeap_42 (by decide) ?_
            refine x_istore_n (pc' := 47) (lv' := [(2, .int (iI 1)), (0, .ref (md 0)), (1, .int (iI (S : Int))), (3, .int (iI (i : Int)))]) C dX12_isHeap_46 rfl (by decide) rfl ?_
            refine x_iinc (pc' := 50) (lv' := [(3, .int (iI ((i : Int) + 1))), (2, .int (iI 1)), (0, .ref (md 0)), (1, .int (iI (S : Int)))]) C 3 dX12_isHeap_47 rfl (by decide) rfl rfl ?_
            refine x_lvI (lv' := [(3, .int (iI ((i + 1 : Nat) : Int))), (2, .int (iI 1)), (0, .ref (md 0)), (1, .int (iI (S : Int)))]) 0 rfl (by omega) rfl ?_
            refine x_goto (tgt := 4) C dX12_isHeap_50 (by decide) ?_
            refine x_lv [2, 3, 1, 0] rfl ?_
            exact ih4 ((i + 1), 1) ⟨(show (i + 1) ≤ nb from by omega), (show 1 = (bI (ftH (σ 12) S (i + 1) = true)) from by first | exact (bI_f (ftH_n c13)).symm | exact (bI_t (ftH_t c13 (fun hh => c21 hh.1))).symm | exact (bI_t (ftH_t c13 (fun hh => hh.2 (by omega)))).symm | exact (bI_f (by rw [ftH_f c21 (by omega) (i + 1) (by omega)]; decide)).symm)⟩ (show nb - (i + 1) < nb - i from by omega)
  · exact ⟨(show 0 ≤ nb from by omega), (show 1 = (bI (ftH (σ 12) S 0 = true)) from rfl)⟩

set_option maxHeartbeats 4000000 in
set_option maxRecDepth 100000 in
theorem c_X12_isPairing (l : Launch) (E : EV) (S : Nat) (hS : S < 65536) : MC l E yX12_isPairing cX12_isPairing 4 (some .boolean) ({ frames := 1, cells := 0, slots := 0, locals := 22 }) [.int (iI (S : Int))] [] (fun v_ w_ => v_ = some (.int (iI (bI (ftP S 4 = true)))) ∧ w_ = []) := by
  refine MC.of (by decide +kernel) (Nat.le_of_ble_eq_true rfl) ?_
  intro p_ e_ s_ m_ args_ below_ meth_ c_ A_ C hr hnm
  have C : Cx p_ s_ m_ args_ meth_ c_ E A_ 4 cX12_isPairing RX12 := C
  show Wx _ _ _ _ _ _ _ _ _ _ _ _ _ _ _ _ 0 [(0, .int (iI (S : Int)))] [] []
  refine x_iconst (pc' := 1) C dX12_isPairing_0 rfl ?_
  refine x_istore_n (pc' := 2) (lv' := [(1, .int (iI 0)), (0, .int (iI (S : Int)))]) C dX12_isPairing_1 rfl (by decide) rfl ?_
  refine x_iconst (pc' := 3) C dX12_isPairing_2 rfl ?_
  refine x_istore_n (pc' := 4) (lv' := [(2, .int (iI 0)), (1, .int (iI 0)), (0, .int (iI (S : Int)))]) C dX12_isPairing_3 rfl (by decide) rfl ?_
  refine x_lv [2, 1, 0] rfl ?_
  refine x_loop (α := (Nat) × (Nat)) (fun a_ => (a_.1 ≤ 4) ∧ (a_.2 = oth S a_.1) ∧ (ftP S a_.1 = true)) (fun a_ => 4 - a_.1) (fun a_ => [(0, .int (iI (S : Int))), (1, .int (iI (a_.2 : Int))), (2, .int (iI (a_.1 : Int)))]) (fun a_ => []) ?_ (0, 0) ?_
  · intro a_ hI_ ih4
    obtain ⟨i, o⟩ := a_
    obtain ⟨hi, ho, hz⟩ := hI_
    replace hi : i ≤ 4 := hi
    replace ho : o = oth S i := ho
    replace hz : ftP S i = true := hz
    show Wx _ _ _ _ _ _ _ _ _ _ _ _ _ _ _ _ 4 [(0, .int (iI (S : Int))), (1, .int (iI (o : Int))), (2, .int (iI (i : Int)))] [] []
    refine x_iload_n (pc' := 5) C 2 dX12_isPairing_4 rfl rfl ?_
    refine x_iconst (pc' := 6) C dX12_isPairing_5 rfl ?_
    refine x_icmp_ge (pc' := 9) (tgt := 44) C dX12_isPairing_6 rfl (by decide) (by omega) (by omega) (fun c6 => ?_) (fun c6 => ?_)
    ·
      refine x_iconst (pc' := 45) C dX12_isPairing_44 rfl ?_
      refine x_top (b := .int (iI (bI (ftP S 4 = true)))) (by rw [bI_t (by rw [← show i = 4 by omega]; exact hz)]) ?_
      exact x_zret C (nar_bI) hr dX12_isPairing_45 ⟨rfl, rfl⟩
    ·
      have hpl := prw_le S i
      have hol := oth_le S i
      have hal : o &&& prw S i ≤ o := Nat.and_le_left
      have hsz := szf_bd (prw S i) 16
      refine x_iload_n (pc' := 10) C 0 dX12_isPairing_9 rfl rfl ?_
      refine x_iconst (pc' := 11) C dX12_isPairing_10 rfl ?_
      refine x_iload_n (pc' := 12) C 2 dX12_isPairing_11 rfl rfl ?_
      refine x_imul (pc' := 13) C dX12_isPairing_12 rfl ?_
      refine x_top (b := .int (iI ((4 * i : Nat) : Int))) (rfl) ?_
      refine x_ishr (pc' := 14) (z := (iI ((S / 2 ^ (4 * i) : Nat) : Int))) C dX12_isPairing_13 rfl (bt_shr (by omega) (by omega)) ?_
      refine x_bipush (pc' := 16) C dX12_isPairing_14 rfl rfl ?_
      refine x_iand (pc' := 17) (z := (iI ((prw S i : Nat) : Int))) C dX12_isPairing_16 rfl (bt_and _ _) ?_
      refine x_istore_n (pc' := 18) (lv' := [(3, .int (iI ((prw S i : Nat) : Int))), (0, .int (iI (S : Int))), (1, .int (iI (o : Int))), (2, .int (iI (i : Int)))]) C dX12_isPairing_17 rfl (by decide) rfl ?_
      refine x_iload_n (pc' := 19) C 0 dX12_isPairing_18 rfl rfl ?_
      refine x_callS (pc' := 22) (As := [.int (iI ((prw S i : Nat) : Int))]) (rest := []) C cs_X12_93 dX12_isPairing_19 rfl (c_X12_size l E (prw S i) (show (prw S i) < 65536 from by omega)) mm_X12_size (hstk := rfl) (hlen := rfl) (hcat := Nat.le_of_ble_eq_true rfl) (isC := []) (isR := []) (wr := []) (hC := rfl) (hR := rfl) (hnC := rfl) (hn := rfl) (hdis := by decide) (hR1 := ⟨Nat.le_of_ble_eq_true rfl, Nat.le_of_ble_eq_true rfl⟩) (hcs := ⟨Nat.le_of_ble_eq_true rfl, Nat.le_of_ble_eq_true rfl⟩) (fun v_ w_ hp_ => ?_)
      obtain ⟨rfl, rfl⟩ := hp_
      show Wx _ _ _ _ _ _ _ _ _ _ _ _ _ _ _ _ 22 [(3, .int (iI ((prw S i : Nat) : Int))), (0, .int (iI (S : Int))), (1, .int (iI (o : Int))), (2, .int (iI (i : Int)))] [.int (iI (szf (prw S i) 16))] []
      refine x_iconst (pc' := 23) C dX12_isPairing_22 rfl ?_
      refine x_icmp_ne (pc' := 26) (tgt := 32) C dX12_isPairing_23 rfl (by decide) (by omega) (by omega) (fun c23 => ?_) (fun c23 => ?_)
      ·
        refine x_iconst (pc' := 33) C dX12_isPairing_32 rfl ?_
        refine x_top (b := .int (iI (bI (ftP S 4 = true)))) (by rw [bI_f (by rw [ftP_f (i := i) (by rw [← ho]; omega) 4 (by omega)]; decide)]) ?_
        exact x_zret C (nar_bI) hr dX12_isPairing_33 ⟨rfl, rfl⟩
      ·
        refine x_iload_n (pc' := 27) C 2 dX12_isPairing_26 rfl rfl ?_
        refine x_iload_n (pc' := 28) C 0 dX12_isPairing_27 rfl rfl ?_
        refine x_iand (pc' := 29) (z := (iI ((o &&& prw S i : Nat) : Int))) C dX12_isPairing_28 rfl (bt_and _ _) ?_
        refine x_if_eq (pc' := 32) (tgt := 34) C dX12_isPairing_29 rfl (by decide) (by omega) (fun c29 => ?_) (fun c29 => ?_)
        ·
          refine x_iload_n (pc' := 35) C 2 dX12_isPairing_34 rfl rfl ?_
          refine x_iload_n (pc' := 36) C 0 dX12_isPairing_35 rfl rfl ?_
          refine x_ior (pc' := 37) (z := (iI ((o ||| prw S i : Nat) : Int))) C dX12_isPairing_36 rfl (bt_or _ _) ?_
          refine x_istore_n (pc' := 38) (lv' := [(1, .int (iI ((o ||| prw S i : Nat) : Int))), (3, .int (iI ((prw S i : Nat) : Int))), (0, .int (iI (S : Int))), (2, .int (iI (i : Int)))]) C dX12_isPairing_37 rfl (by decide) rfl ?_
          refine x_iinc (pc' := 41) (lv' := [(2, .int (iI ((i : Int) + 1))), (1, .int (iI ((o ||| prw S i : Nat) : Int))), (3, .int (iI ((prw S i : Nat) : Int))), (0, .int (iI (S : Int)))]) C 3 dX12_isPairing_38 rfl (by decide) rfl rfl ?_
          refine x_lvI (lv' := [(2, .int (iI ((i + 1 : Nat) : Int))), (1, .int (iI ((o ||| prw S i : Nat) : Int))), (3, .int (iI ((prw S i : Nat) : Int))), (0, .int (iI (S : Int)))]) 0 rfl (by omega) rfl ?_
          refine x_goto (tgt := 4) C dX12_isPairing_41 (by decide) ?_
          refine x_lv [3, 1, 0] rfl ?_
          exact ih4 ((i + 1), (o ||| prw S i)) ⟨(show (i + 1) ≤ 4 from by omega), (show (o ||| prw S i) = oth S (i + 1) from by rw [ho]; rfl), (show ftP S (i + 1) = true from ftP_t hz (by omega) (by rw [← ho]; omega))⟩ (show 4 - (i + 1) < 4 - i from by omega)
        ·
          refine x_iconst (pc' := 33) C dX12_isPairing_32 rfl ?_
          refine x_top (b := .int (iI (bI (ftP S 4 = true)))) (by rw [bI_f (by rw [ftP_f (i := i) (by rw [← ho]; omega) 4 (by omega)]; decide)]) ?_
          exact x_zret C (nar_bI) hr dX12_isPairing_33 ⟨rfl, rfl⟩
  · exact ⟨(show 0 ≤ 4 from by omega), (show 0 = oth S 0 from rfl), (show ftP S 0 = true from rfl)⟩

set_option maxHeartbeats 4000000 in
set_option maxRecDepth 100000 in
theorem c_X12_aOf (l : Launch) (E : EV) (md : Nat → Nat) (k : Nat) (nl : Nat) (nt : Nat) (nb : Nat) (σ : AS) (mn : Nat) (pm : Nat) (μ : AS) (p_1 : Nat) (hk : k < 5) (hnl : nl ≤ 14) (hnt : nt ≤ 8) (hnb : nb ≤ 8) (hp : p_1 < npF k nl nt nb) : MC l E yX12_aOf cX12_aOf 2 (some .int) ({ frames := 0, cells := 0, slots := 0, locals := 0 }) [.ref (md 0), .int (iI (p_1 : Int))] [((md 0), ob 11 [.int (iI (σ 0 0)), .int (iI (k : Int)), .ref (md 1), .int (iI (nl : Int)), .ref (md 2), .ref (md 3), .int (iI (nt : Int)), .int (iI (σ 0 4)), .ref (md 4), .int (iI (nb : Int)), .long (lI (σ 0 6)), .long (lI (σ 0 7)), .ref (md 5), .ref (md 6), .ref (md 7), .ref (md 8), .int (iI (mn : Int)), .ref (md 9), .ref (md 10), .ref (md 11), .int (iI (pm : Int)), .long (lI (μ 0 0)), .long (lI (μ 0 1)), .long (lI (μ 0 2)), .long (lI (μ 0 3))]), ((md 1), ia E 56 (mI 1 4 σ)), ((md 2), ia E 32 (mI 5 2 σ)), ((md 3), ia E 24 (mI 7 3 σ)), ((md 4), ia E 24 (mI 10 3 σ))] (fun v_ w_ => v_ = some (.int (iI (σ (rowA k) p_1))) ∧ w_ = [((md 0), ob 11 [.int (iI (σ 0 0)), .int (iI (k : Int)), .ref (md 1), .int (iI (nl : Int)), .ref (md 2), .ref (md 3), .int (iI (nt : Int)), .int (iI (σ 0 4)), .ref (md 4), .int (iI (nb : Int)), .long (lI (σ 0 6)), .long (lI (σ 0 7)), .ref (md 5), .ref (md 6), .ref (md 7), .ref (md 8), .int (iI (mn : Int)), .ref (md 9), .ref (md 10), .ref (md 11), .int (iI (pm : Int)), .long (lI (μ 0 0)), .long (lI (μ 0 1)), .long (lI (μ 0 2)), .long (lI (μ 0 3))]), ((md 1), ia E 56 (mI 1 4 σ)), ((md 2), ia E 32 (mI 5 2 σ)), ((md 3), ia E 24 (mI 7 3 σ)), ((md 4), ia E 24 (mI 10 3 σ))]) := by
  refine MC.of (by decide +kernel) (Nat.le_of_ble_eq_true rfl) ?_
  intro p_ e_ s_ m_ args_ below_ meth_ c_ A_ C hr hnm
  have C : Cx p_ s_ m_ args_ meth_ c_ E A_ 2 cX12_aOf RX12 := C
  have hnp := npF_le (k := k) hnl hnt hnb
  show Wx _ _ _ _ _ _ _ _ _ _ _ _ _ _ _ _ 0 [(0, .ref (md 0)), (1, .int (iI (p_1 : Int)))] [] [((md 0), ob 11 [.int (iI (σ 0 0)), .int (iI (k : Int)), .ref (md 1), .int (iI (nl : Int)), .ref (md 2), .ref (md 3), .int (iI (nt : Int)), .int (iI (σ 0 4)), .ref (md 4), .int (iI (nb : Int)), .long (lI (σ 0 6)), .long (lI (σ 0 7)), .ref (md 5), .ref (md 6), .ref (md 7), .ref (md 8), .int (iI (mn : Int)), .ref (md 9), .ref (md 10), .ref (md 11), .int (iI (pm : Int)), .long (lI (μ 0 0)), .long (lI (μ 0 1)), .long (lI (μ 0 2)), .long (lI (μ 0 3))]), ((md 1), ia E 56 (mI 1 4 σ)), ((md 2), ia E 32 (mI 5 2 σ)), ((md 3), ia E 24 (mI 7 3 σ)), ((md 4), ia E 24 (mI 10 3 σ))]
  refine x_aload_n (pc' := 1) C 0 dX12_aOf_0 rfl rfl ?_
  refine x_get (pc' := 4) C dX12_aOf_1 rfl ff_X12_65_11 0 rfl rfl ?_
  refine x_iconst (pc' := 5) C dX12_aOf_4 rfl ?_
  refine x_icmp_ge (pc' := 8) (tgt := 21) C dX12_aOf_5 rfl (by decide) (by omega) (by omega) (fun c5 => ?_) (fun c5 => ?_)
  ·
    refine x_aload_n (pc' := 22) C 0 dX12_aOf_21 rfl rfl ?_
    refine x_get (pc' := 25) C dX12_aOf_22 rfl ff_X12_65_11 0 rfl rfl ?_
    refine x_iconst (pc' := 26) C dX12_aOf_25 rfl ?_
    refine x_icmp_ne (pc' := 29) (tgt := 40) C dX12_aOf_26 rfl (by decide) (by omega) (by omega) (fun c26 => ?_) (fun c26 => ?_)
    ·
      refine x_aload_n (pc' := 41) C 0 dX12_aOf_40 rfl rfl ?_
      refine x_get (pc' := 44) C dX12_aOf_41 rfl ff_X12_65_11 0 rfl rfl ?_
      refine x_iconst (pc' := 45) C dX12_aOf_44 rfl ?_
      refine x_icmp_ne (pc' := 48) (tgt := 61) C dX12_aOf_45 rfl (by decide) (by omega) (by omega) (fun c45 => ?_) (fun c45 => ?_)
      ·
        rw [npF_4 (show 4 ≤ k by omega)] at hp
        refine x_aload_n (pc' := 62) C 0 dX12_aOf_61 rfl rfl ?_
        refine x_get (pc' := 65) C dX12_aOf_62 rfl ff_X12_26_11 0 rfl rfl ?_
        refine x_iconst (pc' := 66) C dX12_aOf_65 rfl ?_
        refine x_iload_n (pc' := 67) C 1 dX12_aOf_66 rfl rfl ?_
        refine x_imul (pc' := 68) C dX12_aOf_67 rfl ?_
        refine x_iald (pc' := 69) C (3 * p_1) dX12_aOf_68 rfl 4 rfl (by omega) (by omega) (by omega) ?_
        refine x_top (b := .int (iI (σ 10 p_1))) (by rw [mI_at0 (by decide)]) ?_
        refine x_top (b := .int (iI (σ (rowA k) p_1))) (by first | rw [rowA_0 (by omega)] | rw [rowA_2 (by omega)] | rw [rowA_3 (by omega)] | rw [rowA_4 (by omega)]) ?_
        exact x_iret C hr dX12_aOf_69 ⟨rfl, rfl⟩
      ·
        rw [npF_3 (show k = 3 by omega)] at hp
        refine x_aload_n (pc' := 49) C 0 dX12_aOf_48 rfl rfl ?_
        refine x_get (pc' := 52) C dX12_aOf_49 rfl ff_X12_20_11 0 rfl rfl ?_
        refine x_iconst (pc' := 53) C dX12_aOf_52 rfl ?_
        refine x_iload_n (pc' := 54) C 1 dX12_aOf_53 rfl rfl ?_
        refine x_imul (pc' := 55) C dX12_aOf_54 rfl ?_
        refine x_iconst (pc' := 56) C dX12_aOf_55 rfl ?_
        refine x_iadd (pc' := 57) C dX12_aOf_56 rfl ?_
        refine x_iald (pc' := 58) C ((3 * p_1) + 1) dX12_aOf_57 rfl 3 rfl (by omega) (by omega) (by omega) ?_
        refine x_top (b := .int (iI (σ 8 p_1))) (by rw [mI_at (d := 1) (by decide)]) ?_
        refine x_goto (tgt := 69) C dX12_aOf_58 (by decide) ?_
        refine x_top (b := .int (iI (σ (rowA k) p_1))) (by first | rw [rowA_0 (by omega)] | rw [rowA_2 (by omega)] | rw [rowA_3 (by omega)] | rw [rowA_4 (by omega)]) ?_
        exact x_iret C hr dX12_aOf_69 ⟨rfl, rfl⟩
    ·
      rw [npF_2 (show k = 2 by omega)] at hp
      refine x_aload_n (pc' := 30) C 0 dX12_aOf_29 rfl rfl ?_
      refine x_get (pc' := 33) C dX12_aOf_30 rfl ff_X12_17_11 0 rfl rfl ?_
      refine x_iconst (pc' := 34) C dX12_aOf_33 rfl ?_
      refine x_iload_n (pc' := 35) C 1 dX12_aOf_34 rfl rfl ?_
      refine x_imul (pc' := 36) C dX12_aOf_35 rfl ?_
      refine x_iald (pc' := 37) C (2 * p_1) dX12_aOf_36 rfl 2 rfl (by omega) (by omega) (by omega) ?_
      refine x_top (b := .int (iI (σ 5 p_1))) (by rw [mI_at0 (by decide)]) ?_
      refine x_goto (tgt := 69) C dX12_aOf_37 (by decide) ?_
      refine x_top (b := .int (iI (σ (rowA k) p_1))) (by first | rw [rowA_0 (by omega)] | rw [rowA_2 (by omega)] | rw [rowA_3 (by omega)] | rw [rowA_4 (by omega)]) ?_
      exact x_iret C hr dX12_aOf_69 ⟨rfl, rfl⟩
  ·
    rw [npF_0 (show k < 2 by omega)] at hp
    refine x_aload_n (pc' := 9) C 0 dX12_aOf_8 rfl rfl ?_
    refine x_get (pc' := 12) C dX12_aOf_9 rfl ff_X12_13_11 0 rfl rfl ?_
    refine x_iconst (pc' := 13) C dX12_aOf_12 rfl ?_
    refine x_iload_n (pc' := 14) C 1 dX12_aOf_13 rfl rfl ?_
    refine x_imul (pc' := 15) C dX12_aOf_14 rfl ?_
    refine x_iconst (pc' := 16) C dX12_aOf_15 rfl ?_
    refine x_iadd (pc' := 17) C dX12_aOf_16 rfl ?_
    refine x_iald (pc' := 18) C ((4 * p_1) + 2) dX12_aOf_17 rfl 1 rfl (by omega) (by omega) (by omega) ?_
    refine x_top (b := .int (iI (σ 3 p_1))) (by rw [mI_at (d := 2) (by decide)]) ?_
    refine x_goto (tgt := 69) C dX12_aOf_18 (by decide) ?_
    refine x_top (b := .int (iI (σ (rowA k) p_1))) (by first | rw [rowA_0 (by omega)] | rw [rowA_2 (by omega)] | rw [rowA_3 (by omega)] | rw [rowA_4 (by omega)]) ?_
    exact x_iret C hr dX12_aOf_69 ⟨rfl, rfl⟩

set_option maxHeartbeats 4000000 in
set_option maxRecDepth 100000 in
theorem c_X12_bOf (l : Launch) (E : EV) (md : Nat → Nat) (k : Nat) (nl : Nat) (nt : Nat) (nb : Nat) (σ : AS) (mn : Nat) (pm : Nat) (μ : AS) (p_1 : Nat) (hk : k < 5) (hnl : nl ≤ 14) (hnt : nt ≤ 8) (hnb : nb ≤ 8) (hp : p_1 < npF k nl nt nb) : MC l E yX12_bOf cX12_bOf 2 (some .int) ({ frames := 0, cells := 0, slots := 0, locals := 0 }) [.ref (md 0), .int (iI (p_1 : Int))] [((md 0), ob 11 [.int (iI (σ 0 0)), .int (iI (k : Int)), .ref (md 1), .int (iI (nl : Int)), .ref (md 2), .ref (md 3), .int (iI (nt : Int)), .int (iI (σ 0 4)), .ref (md 4), .int (iI (nb : Int)), .long (lI (σ 0 6)), .long (lI (σ 0 7)), .ref (md 5), .ref (md 6), .ref (md 7), .ref (md 8), .int (iI (mn : Int)), .ref (md 9), .ref (md 10), .ref (md 11), .int (iI (pm : Int)), .long (lI (μ 0 0)), .long (lI (μ 0 1)), .long (lI (μ 0 2)), .long (lI (μ 0 3))]), ((md 1), ia E 56 (mI 1 4 σ)), ((md 2), ia E 32 (mI 5 2 σ)), ((md 3), ia E 24 (mI 7 3 σ)), ((md 4), ia E 24 (mI 10 3 σ))] (fun v_ w_ => v_ = some (.int (iI (σ (rowB k) p_1))) ∧ w_ = [((md 0), ob 11 [.int (iI (σ 0 0)), .int (iI (k : Int)), .ref (md 1), .int (iI (nl : Int)), .ref (md 2), .ref (md 3), .int (iI (nt : Int)), .int (iI (σ 0 4)), .ref (md 4), .int (iI (nb : Int)), .long (lI (σ 0 6)), .long (lI (σ 0 7)), .ref (md 5), .ref (md 6), .ref (md 7), .ref (md 8), .int (iI (mn : Int)), .ref (md 9), .ref (md 10), .ref (md 11), .int (iI (pm : Int)), .long (lI (μ 0 0)), .long (lI (μ 0 1)), .long (lI (μ 0 2)), .long (lI (μ 0 3))]), ((md 1), ia E 56 (mI 1 4 σ)), ((md 2), ia E 32 (mI 5 2 σ)), ((md 3), ia E 24 (mI 7 3 σ)), ((md 4), ia E 24 (mI 10 3 σ))]) := by
  refine MC.of (by decide +kernel) (Nat.le_of_ble_eq_true rfl) ?_
  intro p_ e_ s_ m_ args_ below_ meth_ c_ A_ C hr hnm
  have C : Cx p_ s_ m_ args_ meth_ c_ E A_ 2 cX12_bOf RX12 := C
  have hnp := npF_le (k := k) hnl hnt hnb
  show Wx _ _ _ _ _ _ _ _ _ _ _ _ _ _ _ _ 0 [(0, .ref (md 0)), (1, .int (iI (p_1 : Int)))] [] [((md 0), ob 11 [.int (iI (σ 0 0)), .int (iI (k : Int)), .ref (md 1), .int (iI (nl : Int)), .ref (md 2), .ref (md 3), .int (iI (nt : Int)), .int (iI (σ 0 4)), .ref (md 4), .int (iI (nb : Int)), .long (lI (σ 0 6)), .long (lI (σ 0 7)), .ref (md 5), .ref (md 6), .ref (md 7), .ref (md 8), .int (iI (mn : Int)), .ref (md 9), .ref (md 10), .ref (md 11), .int (iI (pm : Int)), .long (lI (μ 0 0)), .long (lI (μ 0 1)), .long (lI (μ 0 2)), .long (lI (μ 0 3))]), ((md 1), ia E 56 (mI 1 4 σ)), ((md 2), ia E 32 (mI 5 2 σ)), ((md 3), ia E 24 (mI 7 3 σ)), ((md 4), ia E 24 (mI 10 3 σ))]
  refine x_aload_n (pc' := 1) C 0 dX12_bOf_0 rfl rfl ?_
  refine x_get (pc' := 4) C dX12_bOf_1 rfl ff_X12_65_11 0 rfl rfl ?_
  refine x_iconst (pc' := 5) C dX12_bOf_4 rfl ?_
  refine x_icmp_ge (pc' := 8) (tgt := 21) C dX12_bOf_5 rfl (by decide) (by omega) (by omega) (fun c5 => ?_) (fun c5 => ?_)
  ·
    refine x_aload_n (pc' := 22) C 0 dX12_bOf_21 rfl rfl ?_
    refine x_get (pc' := 25) C dX12_bOf_22 rfl ff_X12_65_11 0 rfl rfl ?_
    refine x_iconst (pc' := 26) C dX12_bOf_25 rfl ?_
    refine x_icmp_ne (pc' := 29) (tgt := 42) C dX12_bOf_26 rfl (by decide) (by omega) (by omega) (fun c26 => ?_) (fun c26 => ?_)
    ·
      refine x_aload_n (pc' := 43) C 0 dX12_bOf_42 rfl rfl ?_
      refine x_get (pc' := 46) C dX12_bOf_43 rfl ff_X12_65_11 0 rfl rfl ?_
      refine x_iconst (pc' := 47) C dX12_bOf_46 rfl ?_
      refine x_icmp_ne (pc' := 50) (tgt := 63) C dX12_bOf_47 rfl (by decide) (by omega) (by omega) (fun c47 => ?_) (fun c47 => ?_)
      ·
        rw [npF_4 (show 4 ≤ k by omega)] at hp
        refine x_aload_n (pc' := 64) C 0 dX12_bOf_63 rfl rfl ?_
        refine x_get (pc' := 67) C dX12_bOf_64 rfl ff_X12_26_11 0 rfl rfl ?_
        refine x_iconst (pc' := 68) C dX12_bOf_67 rfl ?_
        refine x_iload_n (pc' := 69) C 1 dX12_bOf_68 rfl rfl ?_
        refine x_imul (pc' := 70) C dX12_bOf_69 rfl ?_
        refine x_iconst (pc' := 71) C dX12_bOf_70 rfl ?_
        refine x_iadd (pc' := 72) C dX12_bOf_71 rfl ?_
        refine x_iald (pc' := 73) C ((3 * p_1) + 1) dX12_bOf_72 rfl 4 rfl (by omega) (by omega) (by omega) ?_
        refine x_top (b := .int (iI (σ 11 p_1))) (by rw [mI_at (d := 1) (by decide)]) ?_
        refine x_top (b := .int (iI (σ (rowB k) p_1))) (by first | rw [rowB_0 (by omega)] | rw [rowB_2 (by omega)] | rw [rowB_3 (by omega)] | rw [rowB_4 (by omega)]) ?_
        exact x_iret C hr dX12_bOf_73 ⟨rfl, rfl⟩
      ·
        rw [npF_3 (show k = 3 by omega)] at hp
        refine x_aload_n (pc' := 51) C 0 dX12_bOf_50 rfl rfl ?_
        refine x_get (pc' := 54) C dX12_bOf_51 rfl ff_X12_20_11 0 rfl rfl ?_
        refine x_iconst (pc' := 55) C dX12_bOf_54 rfl ?_
        refine x_iload_n (pc' := 56) C 1 dX12_bOf_55 rfl rfl ?_
        refine x_imul (pc' := 57) C dX12_bOf_56 rfl ?_
        refine x_iconst (pc' := 58) C dX12_bOf_57 rfl ?_
        refine x_iadd (pc' := 59) C dX12_bOf_58 rfl ?_
        refine x_iald (pc' := 60) C ((3 * p_1) + 2) dX12_bOf_59 rfl 3 rfl (by omega) (by omega) (by omega) ?_
        refine x_top (b := .int (iI (σ 9 p_1))) (by rw [mI_at (d := 2) (by decide)]) ?_
        refine x_goto (tgt := 73) C dX12_bOf_60 (by decide) ?_
        refine x_top (b := .int (iI (σ (rowB k) p_1))) (by first | rw [rowB_0 (by omega)] | rw [rowB_2 (by omega)] | rw [rowB_3 (by omega)] | rw [rowB_4 (by omega)]) ?_
        exact x_iret C hr dX12_bOf_73 ⟨rfl, rfl⟩
    ·
      rw [npF_2 (show k = 2 by omega)] at hp
      refine x_aload_n (pc' := 30) C 0 dX12_bOf_29 rfl rfl ?_
      refine x_get (pc' := 33) C dX12_bOf_30 rfl ff_X12_17_11 0 rfl rfl ?_
      refine x_iconst (pc' := 34) C dX12_bOf_33 rfl ?_
      refine x_iload_n (pc' := 35) C 1 dX12_bOf_34 rfl rfl ?_
      refine x_imul (pc' := 36) C dX12_bOf_35 rfl ?_
      refine x_iconst (pc' := 37) C dX12_bOf_36 rfl ?_
      refine x_iadd (pc' := 38) C dX12_bOf_37 rfl ?_
      refine x_iald (pc' := 39) C ((2 * p_1) + 1) dX12_bOf_38 rfl 2 rfl (by omega) (by omega) (by omega) ?_
      refine x_top (b := .int (iI (σ 6 p_1))) (by rw [mI_at (d := 1) (by decide)]) ?_
      refine x_goto (tgt := 73) C dX12_bOf_39 (by decide) ?_
      refine x_top (b := .int (iI (σ (rowB k) p_1))) (by first | rw [rowB_0 (by omega)] | rw [rowB_2 (by omega)] | rw [rowB_3 (by omega)] | rw [rowB_4 (by omega)]) ?_
      exact x_iret C hr dX12_bOf_73 ⟨rfl, rfl⟩
  ·
    rw [npF_0 (show k < 2 by omega)] at hp
    refine x_aload_n (pc' := 9) C 0 dX12_bOf_8 rfl rfl ?_
    refine x_get (pc' := 12) C dX12_bOf_9 rfl ff_X12_13_11 0 rfl rfl ?_
    refine x_iconst (pc' := 13) C dX12_bOf_12 rfl ?_
    refine x_iload_n (pc' := 14) C 1 dX12_bOf_13 rfl rfl ?_
    refine x_imul (pc' := 15) C dX12_bOf_14 rfl ?_
    refine x_iconst (pc' := 16) C dX12_bOf_15 rfl ?_
    refine x_iadd (pc' := 17) C dX12_bOf_16 rfl ?_
    refine x_iald (pc' := 18) C ((4 * p_1) + 3) dX12_bOf_17 rfl 1 rfl (by omega) (by omega) (by omega) ?_
    refine x_top (b := .int (iI (σ 4 p_1))) (by rw [mI_at (d := 3) (by decide)]) ?_
    refine x_goto (tgt := 73) C dX12_bOf_18 (by decide) ?_
    refine x_top (b := .int (iI (σ (rowB k) p_1))) (by first | rw [rowB_0 (by omega)] | rw [rowB_2 (by omega)] | rw [rowB_3 (by omega)] | rw [rowB_4 (by omega)]) ?_
    exact x_iret C hr dX12_bOf_73 ⟨rfl, rfl⟩

set_option maxHeartbeats 4000000 in
set_option maxRecDepth 100000 in
theorem c_X12_bestBy (l : Launch) (E : EV) (md : Nat → Nat) (k : Nat) (nl : Nat) (nt : Nat) (nb : Nat) (σ : AS) (mn : Nat) (pm : Nat) (μ : AS) (x : Int) (y : Int) (hmn : mn ≤ 16384) (h0 : 0 < mn) (hA : ∀ j_ : Nat, j_ < mn → -1600 ≤ μ 3 j_ ∧ μ 3 j_ ≤ 1600) (hB : ∀ j_ : Nat, j_ < mn → -1600 ≤ μ 4 j_ ∧ μ 4 j_ ≤ 1600) (hx : 0 ≤ x ∧ x ≤ 1000000) (hy : 0 ≤ y ∧ y ≤ 1000000) : MC l E yX12_bestBy cX12_bestBy 7 (some .int) ({ frames := 0, cells := 0, slots := 0, locals := 0 }) [.ref (md 0), .long (lI x), .long (lI y)] [((md 0), ob 11 [.int (iI (σ 0 0)), .int (iI (k : Int)), .ref (md 1), .int (iI (nl : Int)), .ref (md 2), .ref (md 3), .int (iI (nt : Int)), .int (iI (σ 0 4)), .ref (md 4), .int (iI (nb : Int)), .long (lI (σ 0 6)), .long (lI (σ 0 7)), .ref (md 5), .ref (md 6), .ref (md 7), .ref (md 8), .int (iI (mn : Int)), .ref (md 9), .ref (md 10), .ref (md 11), .int (iI (pm : Int)), .long (lI (μ 0 0)), .long (lI (μ 0 1)), .long (lI (μ 0 2)), .long (lI (μ 0 3))]), ((md 7), ia E 16384 (μ 3)), ((md 8), ia E 16384 (μ 4))] (fun v_ w_ => v_ = some (.int (iI ((best (tAt (μ 3) (μ 4) x y) mn : Nat) : Int))) ∧ w_ = [((md 0), ob 11 [.int (iI (σ 0 0)), .int (iI (k : Int)), .ref (md 1), .int (iI (nl : Int)), .ref (md 2), .ref (md 3), .int (iI (nt : Int)), .int (iI (σ 0 4)), .ref (md 4), .int (iI (nb : Int)), .long (lI (σ 0 6)), .long (lI (σ 0 7)), .ref (md 5), .ref (md 6), .ref (md 7), .ref (md 8), .int (iI (mn : Int)), .ref (md 9), .ref (md 10), .ref (md 11), .int (iI (pm : Int)), .long (lI (μ 0 0)), .long (lI (μ 0 1)), .long (lI (μ 0 2)), .long (lI (μ 0 3))]), ((md 7), ia E 16384 (μ 3)), ((md 8), ia E 16384 (μ 4))]) := by
  refine MC.of (by decide +kernel) (Nat.le_of_ble_eq_true rfl) ?_
  intro p_ e_ s_ m_ args_ below_ meth_ c_ A_ C hr hnm
  have C : Cx p_ s_ m_ args_ meth_ c_ E A_ 7 cX12_bestBy RX12 := C
  show Wx _ _ _ _ _ _ _ _ _ _ _ _ _ _ _ _ 0 [(0, .ref (md 0)), (1, .long (lI x)), (3, .long (lI y))] [] [((md 0), ob 11 [.int (iI (σ 0 0)), .int (iI (k : Int)), .ref (md 1), .int (iI (nl : Int)), .ref (md 2), .ref (md 3), .int (iI (nt : Int)), .int (iI (σ 0 4)), .ref (md 4), .int (iI (nb : Int)), .long (lI (σ 0 6)), .long (lI (σ 0 7)), .ref (md 5), .ref (md 6), .ref (md 7), .ref (md 8), .int (iI (mn : Int)), .ref (md 9), .ref (md 10), .ref (md 11), .int (iI (pm : Int)), .long (lI (μ 0 0)), .long (lI (μ 0 1)), .long (lI (μ 0 2)), .long (lI (μ 0 3))]), ((md 7), ia E 16384 (μ 3)), ((md 8), ia E 16384 (μ 4))]
  refine x_iconst (pc' := 1) C dX12_bestBy_0 rfl ?_
  refine x_istore (pc' := 3) (lv' := [(5, .int (iI 0)), (0, .ref (md 0)), (1, .long (lI x)), (3, .long (lI y))]) C dX12_bestBy_1 rfl (by decide) rfl ?_
  refine x_iconst (pc' := 4) C dX12_bestBy_3 rfl ?_
  refine x_istore (pc' := 6) (lv' := [(6, .int (iI 1)), (5, .int (iI 0)), (0, .ref (md 0)), (1, .long (lI x)), (3, .long (lI y))]) C dX12_bestBy_4 rfl (by decide) rfl ?_
  refine x_lv [2, 3, 4, 1, 0] rfl ?_
  refine x_loop (α := (Nat) × (Nat)) (fun a_ => (1 ≤ a_.1 ∧ a_.1 ≤ mn) ∧ (a_.2 < mn) ∧ (a_.2 = best (tAt (μ 3) (μ 4) x y) a_.1)) (fun a_ => mn - a_.1) (fun a_ => [(0, .ref (md 0)), (1, .long (lI x)), (3, .long (lI y)), (5, .int (iI (a_.2 : Int))), (6, .int (iI (a_.1 : Int)))]) (fun a_ => [((md 0), ob 11 [.int (iI (σ 0 0)), .int (iI (k : Int)), .ref (md 1), .int (iI (nl : Int)), .ref (md 2), .ref (md 3), .int (iI (nt : Int)), .int (iI (σ 0 4)), .ref (md 4), .int (iI (nb : Int)), .long (lI (σ 0 6)), .long (lI (σ 0 7)), .ref (md 5), .ref (md 6), .ref (md 7), .ref (md 8), .int (iI (mn : Int)), .ref (md 9), .ref (md 10), .ref (md 11), .int (iI (pm : Int)), .long (lI (μ 0 0)), .long (lI (μ 0 1)), .long (lI (μ 0 2)), .long (lI (μ 0 3))]), ((md 7), ia E 16384 (μ 3)), ((md 8), ia E 16384 (μ 4))]) ?_ (1, 0) ?_
  · intro a_ hI_ ih6
    obtain ⟨i, j⟩ := a_
    obtain ⟨hi, hj, hb_⟩ := hI_
    replace hi : 1 ≤ i ∧ i ≤ mn := hi
    replace hj : j < mn := hj
    replace hb_ : j = best (tAt (μ 3) (μ 4) x y) i := hb_
    show Wx _ _ _ _ _ _ _ _ _ _ _ _ _ _ _ _ 6 [(0, .ref (md 0)), (1, .long (lI x)), (3, .long (lI y)), (5, .int (iI (j : Int))), (6, .int (iI (i : Int)))] [] [((md 0), ob 11 [.int (iI (σ 0 0)), .int (iI (k : Int)), .ref (md 1), .int (iI (nl : Int)), .ref (md 2), .ref (md 3), .int (iI (nt : Int)), .int (iI (σ 0 4)), .ref (md 4), .int (iI (nb : Int)), .long (lI (σ 0 6)), .long (lI (σ 0 7)), .ref (md 5), .ref (md 6), .ref (md 7), .ref (md 8), .int (iI (mn : Int)), .ref (md 9), .ref (md 10), .ref (md 11), .int (iI (pm : Int)), .long (lI (μ 0 0)), .long (lI (μ 0 1)), .long (lI (μ 0 2)), .long (lI (μ 0 3))]), ((md 7), ia E 16384 (μ 3)), ((md 8), ia E 16384 (μ 4))]
    refine x_iload (pc' := 8) C 4 dX12_bestBy_6 rfl rfl ?_
    refine x_aload_n (pc' := 9) C 0 dX12_bestBy_8 rfl rfl ?_
    refine x_get (pc' := 12) C dX12_bestBy_9 rfl ff_X12_113_11 0 rfl rfl ?_
    refine x_icmp_ge (pc' := 15) (tgt := 76) C dX12_bestBy_12 rfl (by decide) (by omega) (by omega) (fun c12 => ?_) (fun c12 => ?_)
    ·
      refine x_iload (pc' := 78) C 3 dX12_bestBy_76 rfl rfl ?_
      refine x_top (b := .int (iI ((best (tAt (μ 3) (μ 4) x y) mn : Nat) : Int))) (by rw [hb_, show i = mn by omega]) ?_
      exact x_iret C hr dX12_bestBy_78 ⟨rfl, rfl⟩
    ·
      have a1 := hA i (by omega)
      have a2 := hA j (by omega)
      have a3 := hB i (by omega)
      have a4 := hB j (by omega)
      have m1 := mulb a1 hy
      have m2 := mulb a3 hx
      have m3 := mulb a2 hy
      have m4 := mulb a4 hx
      refine x_aload_n (pc' := 16) C 0 dX12_bestBy_15 rfl rfl ?_
      refine x_get (pc' := 19) C dX12_bestBy_16 rfl ff_X12_39_11 0 rfl rfl ?_
      refine x_iload (pc' := 21) C 4 dX12_bestBy_19 rfl rfl ?_
      refine x_iald (pc' := 22) C i dX12_bestBy_21 rfl 1 rfl (by omega) (by omega) (by omega) ?_
      refine x_i2l (pc' := 23) C dX12_bestBy_22 rfl (by omega) ?_
      refine x_lload_n (pc' := 24) C 2 dX12_bestBy_23 rfl rfl ?_
      refine x_lmul (pc' := 25) C dX12_bestBy_24 rfl ?_
      refine x_aload_n (pc' := 26) C 0 dX12_bestBy_25 rfl rfl ?_
      refine x_get (pc' := 29) C dX12_bestBy_26 rfl ff_X12_42_11 0 rfl rfl ?_
      refine x_iload (pc' := 31) C 4 dX12_bestBy_29 rfl rfl ?_
      refine x_iald (pc' := 32) C i dX12_bestBy_31 rfl 2 rfl (by omega) (by omega) (by omega) ?_
      refine x_i2l (pc' := 33) C dX12_bestBy_32 rfl (by omega) ?_
      refine x_lload_n (pc' := 34) C 1 dX12_bestBy_33 rfl rfl ?_
      refine x_lmul (pc' := 35) C dX12_bestBy_34 rfl ?_
      refine x_ladd (pc' := 36) C dX12_bestBy_35 rfl ?_
      refine x_aload_n (pc' := 37) C 0 dX12_bestBy_36 rfl rfl ?_
      refine x_get (pc' := 40) C dX12_bestBy_37 rfl ff_X12_39_11 0 rfl rfl ?_
      refine x_iload (pc' := 42) C 3 dX12_bestBy_40 rfl rfl ?_
      refine x_iald (pc' := 43) C j dX12_bestBy_42 rfl 1 rfl (by omega) (by omega) (by omega) ?_
      refine x_i2l (pc' := 44) C dX12_bestBy_43 rfl (by omega) ?_
      refine x_lload_n (pc' := 45) C 2 dX12_bestBy_44 rfl rfl ?_
      refine x_lmul (pc' := 46) C dX12_bestBy_45 rfl ?_
      refine x_aload_n (pc' := 47) C 0 dX12_bestBy_46 rfl rfl ?_
      refine x_get (pc' := 50) C dX12_bestBy_47 rfl ff_X12_42_11 0 rfl rfl ?_
      refine x_iload (pc' := 52) C 3 dX12_bestBy_50 rfl rfl ?_
      refine x_iald (pc' := 53) C j dX12_bestBy_52 rfl 2 rfl (by omega) (by omega) (by omega) ?_
      refine x_i2l (pc' := 54) C dX12_bestBy_53 rfl (by omega) ?_
      refine x_lload_n (pc' := 55) C 1 dX12_bestBy_54 rfl rfl ?_
      refine x_lmul (pc' := 56) C dX12_bestBy_55 rfl ?_
      refine x_ladd (pc' := 57) C dX12_bestBy_56 rfl ?_
      refine x_lcmp_ge (pc' := 61) (tgt := 66) C dX12_bestBy_57 (pc1 := 58) rfl dX12_bestBy_58 rfl (by decide) (by omega) (by omega) (fun c57 => ?_) (fun c57 => ?_)
      ·
        refine x_iload (pc' := 68) C 3 dX12_bestBy_66 rfl rfl ?_
        refine x_istore (pc' := 70) (lv' := [(5, .int (iI (j : Int))), (0, .ref (md 0)), (1, .long (lI x)), (3, .long (lI y)), (6, .int (iI (i : Int)))]) C dX12_bestBy_68 rfl (by decide) rfl ?_
        refine x_iinc (pc' := 73) (lv' := [(6, .int (iI ((i : Int) + 1))), (5, .int (iI (j : Int))), (0, .ref (md 0)), (1, .long (lI x)), (3, .long (lI y))]) C 4 dX12_bestBy_70 rfl (by decide) rfl rfl ?_
        refine x_lvI (lv' := [(6, .int (iI ((i + 1 : Nat) : Int))), (5, .int (iI (j : Int))), (0, .ref (md 0)), (1, .long (lI x)), (3, .long (lI y))]) 0 rfl (by omega) rfl ?_
        refine x_goto (tgt := 6) C dX12_bestBy_73 (by decide) ?_
        refine x_lv [2, 3, 4, 1, 0] rfl ?_
        exact ih6 ((i + 1), j) ⟨(show 1 ≤ (i + 1) ∧ (i + 1) ≤ mn from by omega), (show j < mn from by omega), (show j = best (tAt (μ 3) (μ 4) x y) (i + 1) from by first | exact best_step hb_ rfl c57 | exact best_stay hb_ rfl c57)⟩ (show mn - (i + 1) < mn - i from by omega)
      ·
        refine x_iload (pc' := 63) C 4 dX12_bestBy_61 rfl rfl ?_
        refine x_goto (tgt := 68) C dX12_bestBy_63 (by decide) ?_
        refine x_istore (pc' := 70) (lv' := [(5, .int (iI (i : Int))), (0, .ref (md 0)), (1, .long (lI x)), (3, .long (lI y)), (6, .int (iI (i : Int)))]) C dX12_bestBy_68 rfl (by decide) rfl ?_
        refine x_iinc (pc' := 73) (lv' := [(6, .int (iI ((i : Int) + 1))), (5, .int (iI (i : Int))), (0, .ref (md 0)), (1, .long (lI x)), (3, .long (lI y))]) C 4 dX12_bestBy_70 rfl (by decide) rfl rfl ?_
        refine x_lvI (lv' := [(6, .int (iI ((i + 1 : Nat) : Int))), (5, .int (iI (i : Int))), (0, .ref (md 0)), (1, .long (lI x)), (3, .long (lI y))]) 0 rfl (by omega) rfl ?_
        refine x_goto (tgt := 6) C dX12_bestBy_73 (by decide) ?_
        refine x_lv [2, 3, 4, 1, 0] rfl ?_
        exact ih6 ((i + 1), i) ⟨(show 1 ≤ (i + 1) ∧ (i + 1) ≤ mn from by omega), (show i < mn from by omega), (show i = best (tAt (μ 3) (μ 4) x y) (i + 1) from by first | exact best_step hb_ rfl c57 | exact best_stay hb_ rfl c57)⟩ (show mn - (i + 1) < mn - i from by omega)
  · exact ⟨(show 1 ≤ 1 ∧ 1 ≤ mn from by omega), (show 0 < mn from by omega), (show 0 = best (tAt (μ 3) (μ 4) x y) 1 from (best_1 _).symm)⟩

set_option maxHeartbeats 4000000 in
set_option maxRecDepth 100000 in
theorem c_X12_placeOf (l : Launch) (E : EV) (md : Nat → Nat) (k : Nat) (nl : Nat) (nt : Nat) (nb : Nat) (σ : AS) (mn : Nat) (pm : Nat) (μ : AS) (u : Int) (r_u : -2147483648 ≤ u ∧ u < 2147483648) (hmn : mn ≤ 16384) (hbt : ∀ j_ : Nat, j_ < mn → 0 ≤ μ 2 j_ ∧ μ 2 j_ < 65536) : MC l E yX12_placeOf cX12_placeOf 3 (some .int) ({ frames := 0, cells := 0, slots := 0, locals := 0 }) [.ref (md 0), .int (iI u)] [((md 0), ob 11 [.int (iI (σ 0 0)), .int (iI (k : Int)), .ref (md 1), .int (iI (nl : Int)), .ref (md 2), .ref (md 3), .int (iI (nt : Int)), .int (iI (σ 0 4)), .ref (md 4), .int (iI (nb : Int)), .long (lI (σ 0 6)), .long (lI (σ 0 7)), .ref (md 5), .ref (md 6), .ref (md 7), .ref (md 8), .int (iI (mn : Int)), .ref (md 9), .ref (md 10), .ref (md 11), .int (iI (pm : Int)), .long (lI (μ 0 0)), .long (lI (μ 0 1)), .long (lI (μ 0 2)), .long (lI (μ 0 3))]), ((md 6), ia E 16384 (μ 2))] (fun v_ w_ => ∃ (r : Int), v_ = some (.int (iI r)) ∧ w_ = [((md 0), ob 11 [.int (iI (σ 0 0)), .int (iI (k : Int)), .ref (md 1), .int (iI (nl : Int)), .ref (md 2), .ref (md 3), .int (iI (nt : Int)), .int (iI (σ 0 4)), .ref (md 4), .int (iI (nb : Int)), .long (lI (σ 0 6)), .long (lI (σ 0 7)), .ref (md 5), .ref (md 6), .ref (md 7), .ref (md 8), .int (iI (mn : Int)), .ref (md 9), .ref (md 10), .ref (md 11), .int (iI (pm : Int)), .long (lI (μ 0 0)), .long (lI (μ 0 1)), .long (lI (μ 0 2)), .long (lI (μ 0 3))]), ((md 6), ia E 16384 (μ 2))] ∧ ((r = -1 ∧ ∀ j_ : Nat, j_ < mn → μ 2 j_ ≠ u) ∨ ∃ i_ : Nat, i_ < mn ∧ r = (i_ : Int) ∧ μ 2 i_ = u)) := by
  refine MC.of (by decide +kernel) (Nat.le_of_ble_eq_true rfl) ?_
  intro p_ e_ s_ m_ args_ below_ meth_ c_ A_ C hr hnm
  have C : Cx p_ s_ m_ args_ meth_ c_ E A_ 3 cX12_placeOf RX12 := C
  show Wx _ _ _ _ _ _ _ _ _ _ _ _ _ _ _ _ 0 [(0, .ref (md 0)), (1, .int (iI u))] [] [((md 0), ob 11 [.int (iI (σ 0 0)), .int (iI (k : Int)), .ref (md 1), .int (iI (nl : Int)), .ref (md 2), .ref (md 3), .int (iI (nt : Int)), .int (iI (σ 0 4)), .ref (md 4), .int (iI (nb : Int)), .long (lI (σ 0 6)), .long (lI (σ 0 7)), .ref (md 5), .ref (md 6), .ref (md 7), .ref (md 8), .int (iI (mn : Int)), .ref (md 9), .ref (md 10), .ref (md 11), .int (iI (pm : Int)), .long (lI (μ 0 0)), .long (lI (μ 0 1)), .long (lI (μ 0 2)), .long (lI (μ 0 3))]), ((md 6), ia E 16384 (μ 2))]
  refine x_iconst (pc' := 1) C dX12_placeOf_0 rfl ?_
  refine x_istore_n (pc' := 2) (lv' := [(2, .int (iI 0)), (0, .ref (md 0)), (1, .int (iI u))]) C dX12_placeOf_1 rfl (by decide) rfl ?_
  refine x_lv [1, 2, 0] rfl ?_
  refine x_loop (α := Nat) (fun a_ => (a_ ≤ mn) ∧ (∀ j_ : Nat, j_ < a_ → ¬ μ 2 j_ = u)) (fun a_ => mn - a_) (fun a_ => [(0, .ref (md 0)), (1, .int (iI u)), (2, .int (iI (a_ : Int)))]) (fun a_ => [((md 0), ob 11 [.int (iI (σ 0 0)), .int (iI (k : Int)), .ref (md 1), .int (iI (nl : Int)), .ref (md 2), .ref (md 3), .int (iI (nt : Int)), .int (iI (σ 0 4)), .ref (md 4), .int (iI (nb : Int)), .long (lI (σ 0 6)), .long (lI (σ 0 7)), .ref (md 5), .ref (md 6), .ref (md 7), .ref (md 8), .int (iI (mn : Int)), .ref (md 9), .ref (md 10), .ref (md 11), .int (iI (pm : Int)), .long (lI (μ 0 0)), .long (lI (μ 0 1)), .long (lI (μ 0 2)), .long (lI (μ 0 3))]), ((md 6), ia E 16384 (μ 2))]) ?_ 0 ?_
  · intro a_ hI_ ih2
    obtain ⟨i, rfl⟩ : ∃ z_, z_ = a_ := ⟨_, rfl⟩
    obtain ⟨hi, hz⟩ := hI_
    replace hi : i ≤ mn := hi
    replace hz : ∀ j_ : Nat, j_ < i → ¬ μ 2 j_ = u := hz
    show Wx _ _ _ _ _ _ _ _ _ _ _ _ _ _ _ _ 2 [(0, .ref (md 0)), (1, .int (iI u)), (2, .int (iI (i : Int)))] [] [((md 0), ob 11 [.int (iI (σ 0 0)), .int (iI (k : Int)), .ref (md 1), .int (iI (nl : Int)), .ref (md 2), .ref (md 3), .int (iI (nt : Int)), .int (iI (σ 0 4)), .ref (md 4), .int (iI (nb : Int)), .long (lI (σ 0 6)), .long (lI (σ 0 7)), .ref (md 5), .ref (md 6), .ref (md 7), .ref (md 8), .int (iI (mn : Int)), .ref (md 9), .ref (md 10), .ref (md 11), .int (iI (pm : Int)), .long (lI (μ 0 0)), .long (lI (μ 0 1)), .long (lI (μ 0 2)), .long (lI (μ 0 3))]), ((md 6), ia E 16384 (μ 2))]
    refine x_iload_n (pc' := 3) C 2 dX12_placeOf_2 rfl rfl ?_
    refine x_aload_n (pc' := 4) C 0 dX12_placeOf_3 rfl rfl ?_
    refine x_get (pc' := 7) C dX12_placeOf_4 rfl ff_X12_113_11 0 rfl rfl ?_
    refine x_icmp_ge (pc' := 10) (tgt := 28) C dX12_placeOf_7 rfl (by decide) (by omega) (by omega) (fun c7 => ?_) (fun c7 => ?_)
    ·
      refine x_iconst (pc' := 29) C dX12_placeOf_28 rfl ?_
      exact x_iret C hr dX12_placeOf_29 ⟨(-1), rfl, rfl, (show ((-1) = -1 ∧ ∀ j_ : Nat, j_ < mn → μ 2 j_ ≠ u) ∨ ∃ i_ : Nat, i_ < mn ∧ (-1) = (i_ : Int) ∧ μ 2 i_ = u from Or.inl ⟨rfl, fun j_ hj_ => hz j_ (by omega)⟩)⟩
    ·
      refine x_aload_n (pc' := 11) C 0 dX12_placeOf_10 rfl rfl ?_
      refine x_get (pc' := 14) C dX12_placeOf_11 rfl ff_X12_36_11 0 rfl rfl ?_
      refine x_iload_n (pc' := 15) C 2 dX12_placeOf_14 rfl rfl ?_
      have hb1 := hbt i (by omega)
      refine x_iald (pc' := 16) C i dX12_placeOf_15 rfl 1 rfl (by omega) (by omega) (by omega) ?_
      refine x_iload_n (pc' := 17) C 1 dX12_placeOf_16 rfl rfl ?_
      refine x_icmp_ne (pc' := 20) (tgt := 22) C dX12_placeOf_17 rfl (by decide) (by omega) (by omega) (fun c17 => ?_) (fun c17 => ?_)
      ·
        refine x_iinc (pc' := 25) (lv' := [(2, .int (iI ((i : Int) + 1))), (0, .ref (md 0)), (1, .int (iI u))]) C 2 dX12_placeOf_22 rfl (by decide) rfl rfl ?_
        refine x_lvI (lv' := [(2, .int (iI ((i + 1 : Nat) : Int))), (0, .ref (md 0)), (1, .int (iI u))]) 0 rfl (by omega) rfl ?_
        refine x_goto (tgt := 2) C dX12_placeOf_25 (by decide) ?_
        refine x_lv [1, 2, 0] rfl ?_
        exact ih2 (i + 1) ⟨(show (i + 1) ≤ mn from by omega), (show ∀ j_ : Nat, j_ < (i + 1) → ¬ μ 2 j_ = u from ext_step hz c17)⟩ (show mn - (i + 1) < mn - i from by omega)
      ·
        refine x_iload_n (pc' := 21) C 2 dX12_placeOf_20 rfl rfl ?_
        exact x_iret C hr dX12_placeOf_21 ⟨(i : Int), rfl, rfl, (show ((i : Int) = -1 ∧ ∀ j_ : Nat, j_ < mn → μ 2 j_ ≠ u) ∨ ∃ i_ : Nat, i_ < mn ∧ (i : Int) = (i_ : Int) ∧ μ 2 i_ = u from Or.inr ⟨i, by omega, rfl, by omega⟩)⟩
  · exact ⟨(show 0 ≤ mn from by omega), (show ∀ j_ : Nat, j_ < 0 → ¬ μ 2 j_ = u from fun j_ h_ => absurd h_ (Nat.not_lt_zero _))⟩
