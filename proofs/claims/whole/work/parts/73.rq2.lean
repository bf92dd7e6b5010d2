set_option maxHeartbeats 4000000 in
set_option maxRecDepth 100000 in
theorem c_X12_isTree (l : Launch) (E : EV) (md : Nat → Nat) (k : Nat) (nl : Nat) (nt : Nat) (nb : Nat) (σ : AS) (mn : Nat) (pm : Nat) (μ : AS) (S : Nat) (hS : S < 65536) (hnl : nl ≤ 14) (hlf : ∀ j_ : Nat, j_ < nl → 0 ≤ σ 1 j_ ∧ σ 1 j_ ≤ 5) (hlt : ∀ j_ : Nat, j_ < nl → 0 ≤ σ 2 j_ ∧ σ 2 j_ ≤ 5) : MC l E yX12_isTree cX12_isTree 6 (some .boolean) ({ frames := 1, cells := 0, slots := 0, locals := 22 }) [.ref (md 0), .int (iI (S : Int))] [((md 0), ob 11 [.int (iI (σ 0 0)), .int (iI (k : Int)), .ref (md 1), .int (iI (nl : Int)), .ref (md 2), .ref (md 3), .int (iI (nt : Int)), .int (iI (σ 0 4)), .ref (md 4), .int (iI (nb : Int)), .long (lI (σ 0 6)), .long (lI (σ 0 7)), .ref (md 5), .ref (md 6), .ref (md 7), .ref (md 8), .int (iI (mn : Int)), .ref (md 9), .ref (md 10), .ref (md 11), .int (iI (pm : Int)), .long (lI (μ 0 0)), .long (lI (μ 0 1)), .long (lI (μ 0 2)), .long (lI (μ 0 3))]), ((md 1), ia E 56 (mI 1 4 σ)), ((md 5), ia E 6 (μ 1))] (fun v_ w_ => ∃ (fp2 : Nat → Int), v_ = some (.int (iI (bI (szf S 16 = 5 ∧ okT (σ 1) (σ 2) S nl = true)))) ∧ w_ = [((md 0), ob 11 [.int (iI (σ 0 0)), .int (iI (k : Int)), .ref (md 1), .int (iI (nl : Int)), .ref (md 2), .ref (md 3), .int (iI (nt : Int)), .int (iI (σ 0 4)), .ref (md 4), .int (iI (nb : Int)), .long (lI (σ 0 6)), .long (lI (σ 0 7)), .ref (md 5), .ref (md 6), .ref (md 7), .ref (md 8), .int (iI (mn : Int)), .ref (md 9), .ref (md 10), .ref (md 11), .int (iI (pm : Int)), .long (lI (μ 0 0)), .long (lI (μ 0 1)), .long (lI (μ 0 2)), .long (lI (μ 0 3))]), ((md 1), ia E 56 (mI 1 4 σ)), ((md 5), ia E 6 fp2)]) := by
  refine MC.of (by decide +kernel) (Nat.le_of_ble_eq_true rfl) ?_
  intro p_ e_ s_ m_ args_ below_ meth_ c_ A_ C hr hnm
  have C : Cx p_ s_ m_ args_ meth_ c_ E A_ 6 cX12_isTree RX12 := C
  have hsz := szf_bd S 16
  show Wx _ _ _ _ _ _ _ _ _ _ _ _ _ _ _ _ 0 [(0, .ref (md 0)), (1, .int (iI (S : Int)))] [] [((md 0), ob 11 [.int (iI (σ 0 0)), .int (iI (k : Int)), .ref (md 1), .int (iI (nl : Int)), .ref (md 2), .ref (md 3), .int (iI (nt : Int)), .int (iI (σ 0 4)), .ref (md 4), .int (iI (nb : Int)), .long (lI (σ 0 6)), .long (lI (σ 0 7)), .ref (md 5), .ref (md 6), .ref (md 7), .ref (md 8), .int (iI (mn : Int)), .ref (md 9), .ref (md 10), .ref (md 11), .int (iI (pm : Int)), .long (lI (μ 0 0)), .long (lI (μ 0 1)), .long (lI (μ 0 2)), .long (lI (μ 0 3))]), ((md 1), ia E 56 (mI 1 4 σ)), ((md 5), ia E 6 (μ 1))]
  refine x_iload_n (pc' := 1) C 1 dX12_isTree_0 rfl rfl ?_
  refine x_callS (pc' := 4) (As := [.int (iI (S : Int))]) (rest := []) C cs_X12_93 dX12_isTree_1 rfl (c_X12_size l E S (show S < 65536 from by omega)) mm_X12_size (hstk := rfl) (hlen := rfl) (hcat := Nat.le_of_ble_eq_true rfl) (isC := []) (isR := [0, 1, 2]) (wr := [((md 0), ob 11 [.int (iI (σ 0 0)), .int (iI (k : Int)), .ref (md 1), .int (iI (nl : Int)), .ref (md 2), .ref (md 3), .int (iI (nt : Int)), .int (iI (σ 0 4)), .ref (md 4), .int (iI (nb : Int)), .long (lI (σ 0 6)), .long (lI (σ 0 7)), .ref (md 5), .ref (md 6), .ref (md 7), .ref (md 8), .int (iI (mn : Int)), .ref (md 9), .ref (md 10), .ref (md 11), .int (iI (pm : Int)), .long (lI (μ 0 0)), .long (lI (μ 0 1)), .long (lI (μ 0 2)), .long (lI (μ 0 3))]), ((md 1), ia E 56 (mI 1 4 σ)), ((md 5), ia E 6 (μ 1))]) (hC := rfl) (hR := rfl) (hnC := rfl) (hn := rfl) (hdis := by decide) (hR1 := ⟨Nat.le_of_ble_eq_true rfl, Nat.le_of_ble_eq_true rfl⟩) (hcs := ⟨Nat.le_of_ble_eq_true rfl, Nat.le_of_ble_eq_true rfl⟩) (fun v_ w_ hp_ => ?_)
  obtain ⟨rfl, rfl⟩ := hp_
  show Wx _ _ _ _ _ _ _ _ _ _ _ _ _ _ _ _ 4 [(0, .ref (md 0)), (1, .int (iI (S : Int)))] [.int (iI (szf S 16))] [((md 0), ob 11 [.int (iI (σ 0 0)), .int (iI (k : Int)), .ref (md 1), .int (iI (nl : Int)), .ref (md 2), .ref (md 3), .int (iI (nt : Int)), .int (iI (σ 0 4)), .ref (md 4), .int (iI (nb : Int)), .long (lI (σ 0 6)), .long (lI (σ 0 7)), .ref (md 5), .ref (md 6), .ref (md 7), .ref (md 8), .int (iI (mn : Int)), .ref (md 9), .ref (md 10), .ref (md 11), .int (iI (pm : Int)), .long (lI (μ 0 0)), .long (lI (μ 0 1)), .long (lI (μ 0 2)), .long (lI (μ 0 3))]), ((md 1), ia E 56 (mI 1 4 σ)), ((md 5), ia E 6 (μ 1))]
  refine x_iconst (pc' := 5) C dX12_isTree_4 rfl ?_
  refine x_icmp_eq (pc' := 8) (tgt := 10) C dX12_isTree_5 rfl (by decide) (by omega) (by omega) (fun c5 => ?_) (fun c5 => ?_)
  ·
    refine x_iconst (pc' := 11) C dX12_isTree_10 rfl ?_
    refine x_istore_n (pc' := 12) (lv' := [(2, .int (iI 0)), (0, .ref (md 0)), (1, .int (iI (S : Int)))]) C dX12_isTree_11 rfl (by decide) rfl ?_
    refine x_lv [1, 2, 0] rfl ?_
    refine x_loop (α := (Nat) × (Nat → Int)) (fun a_ => (a_.1 ≤ 6) ∧ (∀ p_1 : Nat, p_1 < a_.1 → a_.2 p_1 = (p_1 : Int))) (fun a_ => 6 - a_.1) (fun a_ => [(0, .ref (md 0)), (1, .int (iI (S : Int))), (2, .int (iI (a_.1 : Int)))]) (fun a_ => [((md 0), ob 11 [.int (iI (σ 0 0)), .int (iI (k : Int)), .ref (md 1), .int (iI (nl : Int)), .ref (md 2), .ref (md 3), .int (iI (nt : Int)), .int (iI (σ 0 4)), .ref (md 4), .int (iI (nb : Int)), .long (lI (σ 0 6)), .long (lI (σ 0 7)), .ref (md 5), .ref (md 6), .ref (md 7), .ref (md 8), .int (iI (mn : Int)), .ref (md 9), .ref (md 10), .ref (md 11), .int (iI (pm : Int)), .long (lI (μ 0 0)), .long (lI (μ 0 1)), .long (lI (μ 0 2)), .long (lI (μ 0 3))]), ((md 1), ia E 56 (mI 1 4 σ)), ((md 5), ia E 6 a_.2)]) ?_ (0, (μ 1)) ?_
    · intro a_ hI_ ih12
      obtain ⟨q, f0⟩ := a_
      obtain ⟨hq, hz⟩ := hI_
      replace hq : q ≤ 6 := hq
      replace hz : ∀ p_1 : Nat, p_1 < q → f0 p_1 = (p_1 : Int) := hz
      show Wx _ _ _ _ _ _ _ _ _ _ _ _ _ _ _ _ 12 [(0, .ref (md 0)), (1, .int (iI (S : Int))), (2, .int (iI (q : Int)))] [] [((md 0), ob 11 [.int (iI (σ 0 0)), .int (iI (k : Int)), .ref (md 1), .int (iI (nl : Int)), .ref (md 2), .ref (md 3), .int (iI (nt : Int)), .int (iI (σ 0 4)), .ref (md 4), .int (iI (nb : Int)), .long (lI (σ 0 6)), .long (lI (σ 0 7)), .ref (md 5), .ref (md 6), .ref (md 7), .ref (md 8), .int (iI (mn : Int)), .ref (md 9), .ref (md 10), .ref (md 11), .int (iI (pm : Int)), .long (lI (μ 0 0)), .long (lI (μ 0 1)), .long (lI (μ 0 2)), .long (lI (μ 0 3))]), ((md 1), ia E 56 (mI 1 4 σ)), ((md 5), ia E 6 f0)]
      refine x_iload_n (pc' := 13) C 2 dX12_isTree_12 rfl rfl ?_
      refine x_bipush (pc' := 15) C dX12_isTree_13 rfl rfl ?_
      refine x_icmp_ge (pc' := 18) (tgt := 31) C dX12_isTree_15 rfl (by decide) (by omega) (by omega) (fun c15 => ?_) (fun c15 => ?_)
      ·
        refine x_iconst (pc' := 32) C dX12_isTree_31 rfl ?_
        refine x_istore_n (pc' := 33) (lv' := [(2, .int (iI 0)), (0, .ref (md 0)), (1, .int (iI (S : Int)))]) C dX12_isTree_32 rfl (by decide) rfl ?_
        refine x_lv [1, 2, 0] rfl ?_
        refine x_loop (α := (Nat) × (Nat → Int)) (fun a_ => (a_.1 ≤ nl) ∧ (∀ p_1 : Nat, p_1 < 6 → a_.2 p_1 = (lab (σ 1) (σ 2) S a_.1 p_1)) ∧ (okT (σ 1) (σ 2) S a_.1 = true)) (fun a_ => nl - a_.1) (fun a_ => [(0, .ref (md 0)), (1, .int (iI (S : Int))), (2, .int (iI (a_.1 : Int)))]) (fun a_ => [((md 0), ob 11 [.int (iI (σ 0 0)), .int (iI (k : Int)), .ref (md 1), .int (iI (nl : Int)), .ref (md 2), .ref (md 3), .int (iI (nt : Int)), .int (iI (σ 0 4)), .ref (md 4), .int (iI (nb : Int)), .long (lI (σ 0 6)), .long (lI (σ 0 7)), .ref (md 5), .ref (md 6), .ref (md 7), .ref (md 8), .int (iI (mn : Int)), .ref (md 9), .ref (md 10), .ref (md 11), .int (iI (pm : Int)), .long (lI (μ 0 0)), .long (lI (μ 0 1)), .long (lI (μ 0 2)), .long (lI (μ 0 3))]), ((md 1), ia E 56 (mI 1 4 σ)), ((md 5), ia E 6 a_.2)]) ?_ (0, f0) ?_
        · intro a_ hI_ ih33
          obtain ⟨i, f1⟩ := a_
          obtain ⟨hi, hl_, ho_⟩ := hI_
          replace hi : i ≤ nl := hi
          replace hl_ : ∀ p_1 : Nat, p_1 < 6 → f1 p_1 = (lab (σ 1) (σ 2) S i p_1) := hl_
          replace ho_ : okT (σ 1) (σ 2) S i = true := ho_
          show Wx _ _ _ _ _ _ _ _ _ _ _ _ _ _ _ _ 33 [(0, .ref (md 0)), (1, .int (iI (S : Int))), (2, .int (iI (i : Int)))] [] [((md 0), ob 11 [.int (iI (σ 0 0)), .int (iI (k : Int)), .ref (md 1), .int (iI (nl : Int)), .ref (md 2), .ref (md 3), .int (iI (nt : Int)), .int (iI (σ 0 4)), .ref (md 4), .int (iI (nb : Int)), .long (lI (σ 0 6)), .long (lI (σ 0 7)), .ref (md 5), .ref (md 6), .ref (md 7), .ref (md 8), .int (iI (mn : Int)), .ref (md 9), .ref (md 10), .ref (md 11), .int (iI (pm : Int)), .long (lI (μ 0 0)), .long (lI (μ 0 1)), .long (lI (μ 0 2)), .long (lI (μ 0 3))]), ((md 1), ia E 56 (mI 1 4 σ)), ((md 5), ia E 6 f1)]
          refine x_iload_n (pc' := 34) C 2 dX12_isTree_33 rfl rfl ?_
          refine x_aload_n (pc' := 35) C 0 dX12_isTree_34 rfl rfl ?_
          refine x_get (pc' := 38) C dX12_isTree_35 rfl ff_X12_74_11 0 rfl rfl ?_
          refine x_icmp_ge (pc' := 41) (tgt := 141) C dX12_isTree_38 rfl (by decide) (by omega) (by omega) (fun c38 => ?_) (fun c38 => ?_)
          ·
            refine x_iconst (pc' := 142) C dX12_isTree_141 rfl ?_
            refine x_top (b := .int (iI (bI (szf S 16 = 5 ∧ okT (σ 1) (σ 2) S nl = true)))) (by rw [bI_t ⟨c5, by rw [← show i = nl by omega]; exact ho_⟩]) ?_
            exact x_zret C (nar_bI) hr dX12_isTree_142 ⟨f1, rfl, rfl⟩
          ·
            refine x_iload_n (pc' := 42) C 1 dX12_isTree_41 rfl rfl ?_
            refine x_iload_n (pc' := 43) C 2 dX12_isTree_42 rfl rfl ?_
            refine x_ishr (pc' := 44) (z := (iI ((S / 2 ^ i : Nat) : Int))) C dX12_isTree_43 rfl (bt_shr (by omega) (by omega)) ?_
            refine x_iconst (pc' := 45) C dX12_isTree_44 rfl ?_
            refine x_iand (pc' := 46) (z := (iI (bI (S.testBit i = true)))) C dX12_isTree_45 rfl (bt_bit) ?_
            refine x_iconst (pc' := 47) C dX12_isTree_46 rfl ?_
            refine x_icmp_ne (pc' := 50) (tgt := 135) C dX12_isTree_47 rfl (by decide) (bI_rng) (by omega) (fun c47 => ?_) (fun c47 => ?_)
            ·
              replace c47 := bI_n1 c47
              refine x_iinc (pc' := 138) (lv' := [(2, .int (iI ((i : Int) + 1))), (0, .ref (md 0)), (1, .int (iI (S : Int)))]) C 2 dX12_isTree_135 rfl (by decide) rfl rfl ?_
              refine x_lvI (lv' := [(2, .int (iI ((i + 1 : Nat) : Int))), (0, .ref (md 0)), (1, .int (iI (S : Int)))]) 0 rfl (by omega) rfl ?_
              refine x_goto (tgt := 33) C dX12_isTree_138 (by decide) ?_
              refine x_lv [1, 2, 0] rfl ?_
              exact ih33 ((i + 1), f1) ⟨(show (i + 1) ≤ nl from by omega), (show ∀ p_1 : Nat, p_1 < 6 → f1 p_1 = (lab (σ 1) (σ 2) S (i + 1) p_1) from lab_skip hl_ c47), (show okT (σ 1) (σ 2) S (i + 1) = true from okT_t ho_ (fun hh => c47 hh.1))⟩ (show nl - (i + 1) < nl - i from by omega)
            ·
              replace c47 := bI_1 c47
              have hf1 := hlf i (by omega)
              have ht1 := hlt i (by omega)
              have hb1 := lab_bd (lt := σ 2) (S := S) hlf i hi (σ 1 i).toNat (by omega)
              have hb2 := lab_bd (lt := σ 2) (S := S) hlf i hi (σ 2 i).toNat (by omega)
              refine x_aload_n (pc' := 51) C 0 dX12_isTree_50 rfl rfl ?_
              refine x_get (pc' := 54) C dX12_isTree_51 rfl ff_X12_33_11 0 rfl rfl ?_
              refine x_aload_n (pc' := 55) C 0 dX12_isTree_54 rfl rfl ?_
              refine x_get (pc' := 58) C dX12_isTree_55 rfl ff_X12_13_11 0 rfl rfl ?_
              refine x_iconst (pc' := 59) C dX12_isTree_58 rfl ?_
              refine x_iload_n (pc' := 60) C 2 dX12_isTree_59 rfl rfl ?_
              refine x_imul (pc' := 61) C dX12_isTree_60 rfl ?_
              refine x_iald (pc' := 62) C (4 * i) dX12_isTree_61 rfl 1 rfl (by omega) (by omega) (by omega) ?_
              refine x_top (b := .int (iI (((σ 1 i).toNat : Nat) : Int))) (by rw [mI_at0 (by decide)]; congr 2; omega) ?_
              refine x_iald (pc' := 63) C ((σ 1 i).toNat) dX12_isTree_62 rfl 2 rfl (by omega) (by omega) (by omega) ?_
              refine x_top (b := .int (iI (lab (σ 1) (σ 2) S i (σ 1 i).toNat))) (by rw [hl_ _ (by omega)]) ?_
              refine x_istore_n (pc' := 64) (lv' := [(3, .int (iI (lab (σ 1) (σ 2) S i (σ 1 i).toNat))), (0, .ref (md 0)), (1, .int (iI (S : Int))), (2, .int (iI (i : Int)))]) C dX12_isTree_63 rfl (by decide) rfl ?_
              refine x_aload_n (pc' := 65) C 1 dX12_isTree_64 rfl rfl ?_
              refine x_get (pc' := 68) C dX12_isTree_65 rfl ff_X12_33_11 0 rfl rfl ?_
              refine x_aload_n (pc' := 69) C 1 dX12_isTree_68 rfl rfl ?_
              refine x_get (pc' := 72) C dX12_isTree_69 rfl ff_X12_13_11 0 rfl rfl ?_
              refine x_iconst (pc' := 73) C dX12_isTree_72 rfl ?_
              refine x_iload_n (pc' := 74) C 3 dX12_isTree_73 rfl rfl ?_
              refine x_imul (pc' := 75) C dX12_isTree_74 rfl ?_
              refine x_iconst (pc' := 76) C dX12_isTree_75 rfl ?_
              refine x_iadd (pc' := 77) C dX12_isTree_76 rfl ?_
              refine x_iald (pc' := 78) C ((4 * i) + 1) dX12_isTree_77 rfl 1 rfl (by omega) (by omega) (by omega) ?_
              refine x_top (b := .int (iI (((σ 2 i).toNat : Nat) : Int))) (by rw [mI_at (d := 1) (by decide)]; show Value.int (iI (σ 2 i)) = _; congr 2; omega) ?_
              refine x_iald (pc' := 79) C ((σ 2 i).toNat) dX12_isTree_78 rfl 2 rfl (by omega) (by omega) (by omega) ?_
              refine x_top (b := .int (iI (lab (σ 1) (σ 2) S i (σ 2 i).toNat))) (by rw [hl_ _ (by omega)]) ?_
              refine x_istore (pc' := 81) (lv' := [(4, .int (iI (lab (σ 1) (σ 2) S i (σ 2 i).toNat))), (3, .int (iI (lab (σ 1) (σ 2) S i (σ 1 i).toNat))), (0, .ref (md 0)), (1, .int (iI (S : Int))), (2, .int (iI (i : Int)))]) C dX12_isTree_79 rfl (by decide) rfl ?_
              refine x_iload_n (pc' := 82) C 1 dX12_isTree_81 rfl rfl ?_
              refine x_iload (pc' := 84) C 0 dX12_isTree_82 rfl rfl ?_
              refine x_icmp_ne (pc' := 87) (tgt := 89) C dX12_isTree_84 rfl (by decide) (by omega) (by omega) (fun c84 => ?_) (fun c84 => ?_)
              ·
                refine x_iconst (pc' := 90) C dX12_isTree_89 rfl ?_
                refine x_istore (pc' := 92) (lv' := [(5, .int (iI 0)), (4, .int (iI (lab (σ 1) (σ 2) S i (σ 2 i).toNat))), (3, .int (iI (lab (σ 1) (σ 2) S i (σ 1 i).toNat))), (0, .ref (md 0)), (1, .int (iI (S : Int))), (2, .int (iI (i : Int)))]) C dX12_isTree_90 rfl (by decide) rfl ?_
                refine x_lv [3, 4, 5, 2, 1, 0] rfl ?_
                refine x_loop (α := (Nat) × (Nat → Int)) (fun a_ => (a_.1 ≤ 6) ∧ (∀ p_1 : Nat, p_1 < a_.1 → a_.2 p_1 = (lab (σ 1) (σ 2) S (i + 1) p_1)) ∧ (∀ p_1 : Nat, a_.1 ≤ p_1 → p_1 < 6 → a_.2 p_1 = (lab (σ 1) (σ 2) S i p_1))) (fun a_ => 6 - a_.1) (fun a_ => [(0, .ref (md 0)), (1, .int (iI (S : Int))), (2, .int (iI (i : Int))), (3, .int (iI (lab (σ 1) (σ 2) S i (σ 1 i).toNat))), (4, .int (iI (lab (σ 1) (σ 2) S i (σ 2 i).toNat))), (5, .int (iI (a_.1 : Int)))]) (fun a_ => [((md 0), ob 11 [.int (iI (σ 0 0)), .int (iI (k : Int)), .ref (md 1), .int (iI (nl : Int)), .ref (md 2), .ref (md 3), .int (iI (nt : Int)), .int (iI (σ 0 4)), .ref (md 4), .int (iI (nb : Int)), .long (lI (σ 0 6)), .long (lI (σ 0 7)), .ref (md 5), .ref (md 6), .ref (md 7), .ref (md 8), .int (iI (mn : Int)), .ref (md 9), .ref (md 10), .ref (md 11), .int (iI (pm : Int)), .long (lI (μ 0 0)), .long (lI (μ 0 1)), .long (lI (μ 0 2)), .long (lI (μ 0 3))]), ((md 1), ia E 56 (mI 1 4 σ)), ((md 5), ia E 6 a_.2)]) ?_ (0, f1) ?_
                · intro a_ hI_ ih92
                  obtain ⟨r, f2⟩ := a_
                  obtain ⟨hr_, hlo, hhi⟩ := hI_
                  replace hr_ : r ≤ 6 := hr_
                  replace hlo : ∀ p_1 : Nat, p_1 < r → f2 p_1 = (lab (σ 1) (σ 2) S (i + 1) p_1) := hlo
                  replace hhi : ∀ p_1 : Nat, r ≤ p_1 → p_1 < 6 → f2 p_1 = (lab (σ 1) (σ 2) S i p_1) := hhi
                  show Wx _ _ _ _ _ _ _ _ _ _ _ _ _ _ _ _ 92 [(0, .ref (md 0)), (1, .int (iI (S : Int))), (2, .int (iI (i : Int))), (3, .int (iI (lab (σ 1) (σ 2) S i (σ 1 i).toNat))), (4, .int (iI (lab (σ 1) (σ 2) S i (σ 2 i).toNat))), (5, .int (iI (r : Int)))] [] [((md 0), ob 11 [.int (iI (σ 0 0)), .int (iI (k : Int)), .ref (md 1), .int (iI (nl : Int)), .ref (md 2), .ref (md 3), .int (iI (nt : Int)), .int (iI (σ 0 4)), .ref (md 4), .int (iI (nb : Int)), .long (lI (σ 0 6)), .long (lI (σ 0 7)), .ref (md 5), .ref (md 6), .ref (md 7), .ref (md 8), .int (iI (mn : Int)), .ref (md 9), .ref (md 10), .ref (md 11), .int (iI (pm : Int)), .long (lI (μ 0 0)), .long (lI (μ 0 1)), .long (lI (μ 0 2)), .long (lI (μ 0 3))]), ((md 1), ia E 56 (mI 1 4 σ)), ((md 5), ia E 6 f2)]
                  refine x_iload (pc' := 94) C 5 dX12_isTree_92 rfl rfl ?_
                  refine x_bipush (pc' := 96) C dX12_isTree_94 rfl rfl ?_
                  refine x_icmp_ge (pc' := 99) (tgt := 135) C dX12_isTree_96 rfl (by decide) (by omega) (by omega) (fun c96 => ?_) (fun c96 => ?_)
                  ·
                    refine x_iinc (pc' := 138) (lv' := [(2, .int (iI ((i : Int) + 1))), (0, .ref (md 0)), (1, .int (iI (S : Int))), (3, .int (iI (lab (σ 1) (σ 2) S i (σ 1 i).toNat))), (4, .int (iI (lab (σ 1) (σ 2) S i (σ 2 i).toNat))), (5, .int (iI (r : Int)))]) C 2 dX12_isTree_135 rfl (by decide) rfl rfl ?_
                    refine x_lvI (lv' := [(2, .int (iI ((i + 1 : Nat) : Int))), (0, .ref (md 0)), (1, .int (iI (S : Int))), (3, .int (iI (lab (σ 1) (σ 2) S i (σ 1 i).toNat))), (4, .int (iI (lab (σ 1) (σ 2) S i (σ 2 i).toNat))), (5, .int (iI (r : Int)))]) 0 rfl (by omega) rfl ?_
                    refine x_goto (tgt := 33) C dX12_isTree_138 (by decide) ?_
                    refine x_lv [1, 2, 0] rfl ?_
                    exact ih33 ((i + 1), f2) ⟨(show (i + 1) ≤ nl from by omega), (show ∀ p_1 : Nat, p_1 < 6 → f2 p_1 = (lab (σ 1) (σ 2) S (i + 1) p_1) from fun p_1 h_ => hlo p_1 (by omega)), (show okT (σ 1) (σ 2) S (i + 1) = true from okT_t ho_ (fun hh => c84 hh.2))⟩ (show nl - (i + 1) < nl - i from by omega)
                  ·
                    have hb3 := lab_bd (lt := σ 2) (S := S) hlf i hi r (by omega)
                    have hf2 := hhi r (Nat.le_refl _) (by omega)
                    refine x_aload_n (pc' := 100) C 0 dX12_isTree_99 rfl rfl ?_
                    refine x_get (pc' := 103) C dX12_isTree_100 rfl ff_X12_33_11 0 rfl rfl ?_
                    refine x_iload (pc' := 105) C 5 dX12_isTree_103 rfl rfl ?_
                    refine x_aload_n (pc' := 106) C 0 dX12_isTree_105 rfl rfl ?_
                    refine x_get (pc' := 109) C dX12_isTree_106 rfl ff_X12_33_11 0 rfl rfl ?_
                    refine x_iload (pc' := 111) C 5 dX12_isTree_109 rfl rfl ?_
                    refine x_iald (pc' := 112) C r dX12_isTree_111 rfl 2 rfl (by omega) (by omega) (by omega) ?_
                    refine x_top (b := .int (iI (lab (σ 1) (σ 2) S i r))) (by rw [hf2]) ?_
                    refine x_iload (pc' := 114) C 4 dX12_isTree_112 rfl rfl ?_
                    refine x_icmp_ne (pc' := 117) (tgt := 121) C dX12_isTree_114 rfl (by decide) (by omega) (by omega) (fun c114 => ?_) (fun c114 => ?_)
                    ·
                      refine x_aload_n (pc' := 122) C 0 dX12_isTree_121 rfl rfl ?_
                      refine x_get (pc' := 125) C dX12_isTree_122 rfl ff_X12_33_11 0 rfl rfl ?_
                      refine x_iload (pc' := 127) C 5 dX12_isTree_125 rfl rfl ?_
                      refine x_iald (pc' := 128) C r dX12_isTree_127 rfl 2 rfl (by omega) (by omega) (by omega) ?_
                      refine x_top (b := .int (iI (lab (σ 1) (σ 2) S i r))) (by rw [hf2]) ?_
                      refine x_iast (pc' := 129) (ws' := [((md 0), ob 11 [.int (iI (σ 0 0)), .int (iI (k : Int)), .ref (md 1), .int (iI (nl : Int)), .ref (md 2), .ref (md 3), .int (iI (nt : Int)), .int (iI (σ 0 4)), .ref (md 4), .int (iI (nb : Int)), .long (lI (σ 0 6)), .long (lI (σ 0 7)), .ref (md 5), .ref (md 6), .ref (md 7), .ref (md 8), .int (iI (mn : Int)), .ref (md 9), .ref (md 10), .ref (md 11), .int (iI (pm : Int)), .long (lI (μ 0 0)), .long (lI (μ 0 1)), .long (lI (μ 0 2)), .long (lI (μ 0 3))]), ((md 1), ia E 56 (mI 1 4 σ)), ((md 5), ia E 6 (va_up f2 r (lab (σ 1) (σ 2) S i r)))]) C r dX12_isTree_128 rfl 2 rfl (by omega) (by omega) (by omega) rfl ?_
                      refine x_iinc (pc' := 132) (lv' := [(5, .int (iI ((r : Int) + 1))), (0, .ref (md 0)), (1, .int (iI (S : Int))), (2, .int (iI (i : Int))), (3, .int (iI (lab (σ 1) (σ 2) S i (σ 1 i).toNat))), (4, .int (iI (lab (σ 1) (σ 2) S i (σ 2 i).toNat)))]) C 5 dX12_isTree_129 rfl (by decide) rfl rfl ?_
                      refine x_lvI (lv' := [(5, .int (iI ((r + 1 : Nat) : Int))), (0, .ref (md 0)), (1, .int (iI (S : Int))), (2, .int (iI (i : Int))), (3, .int (iI (lab (σ 1) (σ 2) S i (σ 1 i).toNat))), (4, .int (iI (lab (σ 1) (σ 2) S i (σ 2 i).toNat)))]) 0 rfl (by omega) rfl ?_
                      refine x_goto (tgt := 92) C dX12_isTree_132 (by decide) ?_
                      refine x_lv [1, 2, 3, 4, 5, 0] rfl ?_
                      exact ih92 ((r + 1), (va_up f2 r (lab (σ 1) (σ 2) S i r))) ⟨(show (r + 1) ≤ 6 from by omega), (show ∀ p_1 : Nat, p_1 < (r + 1) → (va_up f2 r (lab (σ 1) (σ 2) S i r)) p_1 = (lab (σ 1) (σ 2) S (i + 1) p_1) from lab_lo hlo (by first | exact (lab_in c47 c114).symm | exact (lab_out (fun hh => c114 hh.2)).symm)), (show ∀ p_1 : Nat, (r + 1) ≤ p_1 → p_1 < 6 → (va_up f2 r (lab (σ 1) (σ 2) S i r)) p_1 = (lab (σ 1) (σ 2) S i p_1) from lab_hi hhi)⟩ (show 6 - (r + 1) < 6 - r from by omega)
                    ·
                      refine x_iload_n (pc' := 118) C 3 dX12_isTree_117 rfl rfl ?_
                      refine x_goto (tgt := 128) C dX12_isTree_118 (by decide) ?_
                      refine x_iast (pc' := 129) (ws' := [((md 0), ob 11 [.int (iI (σ 0 0)), .int (iI (k : Int)), .ref (md 1), .int (iI (nl : Int)), .ref (md 2), .ref (md 3), .int (iI (nt : Int)), .int (iI (σ 0 4)), .ref (md 4), .int (iI (nb : Int)), .long (lI (σ 0 6)), .long (lI (σ 0 7)), .ref (md 5), .ref (md 6), .ref (md 7), .ref (md 8), .int (iI (mn : Int)), .ref (md 9), .ref (md 10), .ref (md 11), .int (iI (pm : Int)), .long (lI (μ 0 0)), .long (lI (μ 0 1)), .long (lI (μ 0 2)), .long (lI (μ 0 3))]), ((md 1), ia E 56 (mI 1 4 σ)), ((md 5), ia E 6 (va_up f2 r (lab (σ 1) (σ 2) S i (σ 1 i).toNat)))]) C r dX12_isTree_128 rfl 2 rfl (by omega) (by omega) (by omega) rfl ?_
                      refine x_iinc (pc' := 132) (lv' := [(5, .int (iI ((r : Int) + 1))), (0, .ref (md 0)), (1, .int (iI (S : Int))), (2, .int (iI (i : Int))), (3, .int (iI (lab (σ 1) (σ 2) S i (σ 1 i).toNat))), (4, .int (iI (lab (σ 1) (σ 2) S i (σ 2 i).toNat)))]) C 5 dX12_isTree_129 rfl (by decide) rfl rfl ?_
                      refine x_lvI (lv' := [(5, .int (iI ((r + 1 : Nat) : Int))), (0, .ref (md 0)), (1, .int (iI (S : Int))), (2, .int (iI (i : Int))), (3, .int (iI (lab (σ 1) (σ 2) S i (σ 1 i).toNat))), (4, .int (iI (lab (σ 1) (σ 2) S i (σ 2 i).toNat)))]) 0 rfl (by omega) rfl ?_
                      refine x_goto (tgt := 92) C dX12_isTree_132 (by decide) ?_
                      refine x_lv [1, 2, 3, 4, 5, 0] rfl ?_
                      exact ih92 ((r + 1), (va_up f2 r (lab (σ 1) (σ 2) S i (σ 1 i).toNat))) ⟨(show (r + 1) ≤ 6 from by omega), (show ∀ p_1 : Nat, p_1 < (r + 1) → (va_up f2 r (lab (σ 1) (σ 2) S i (σ 1 i).toNat)) p_1 = (lab (σ 1) (σ 2) S (i + 1) p_1) from lab_lo hlo (by first | exact (lab_in c47 c114).symm | exact (lab_out (fun hh => c114 hh.2)).symm)), (show ∀ p_1 : Nat, (r + 1) ≤ p_1 → p_1 < 6 → (va_up f2 r (lab (σ 1) (σ 2) S i (σ 1 i).toNat)) p_1 = (lab (σ 1) (σ 2) S i p_1) from lab_hi hhi)⟩ (show 6 - (r + 1) < 6 - r from by omega)
                · exact ⟨(show 0 ≤ 6 from by omega), (show ∀ p_1 : Nat, p_1 < 0 → f1 p_1 = (lab (σ 1) (σ 2) S (i + 1) p_1) from fun p_1 h_ => absurd h_ (Nat.not_lt_zero _)), (show ∀ p_1 : Nat, 0 ≤ p_1 → p_1 < 6 → f1 p_1 = (lab (σ 1) (σ 2) S i p_1) from fun p_1 _ h_ => hl_ p_1 h_)⟩
              ·
                refine x_iconst (pc' := 88) C dX12_isTree_87 rfl ?_
                refine x_top (b := .int (iI (bI (szf S 16 = 5 ∧ okT (σ 1) (σ 2) S nl = true)))) (by rw [bI_f (fun hh => by rw [okT_f ⟨c47, c84⟩ nl (by omega)] at hh; exact absurd hh.2 (by decide))]) ?_
                exact x_zret C (nar_bI) hr dX12_isTree_88 ⟨f1, rfl, rfl⟩
        · exact ⟨(show 0 ≤ nl from by omega), (show ∀ p_1 : Nat, p_1 < 6 → f0 p_1 = (lab (σ 1) (σ 2) S 0 p_1) from fun p_1 h_ => hz p_1 (by omega)), (show okT (σ 1) (σ 2) S 0 = true from rfl)⟩
      ·
        refine x_aload_n (pc' := 19) C 0 dX12_isTree_18 rfl rfl ?_
        refine x_get (pc' := 22) C dX12_isTree_19 rfl ff_X12_33_11 0 rfl rfl ?_
        refine x_iload_n (pc' := 23) C 2 dX12_isTree_22 rfl rfl ?_
        refine x_iload_n (pc' := 24) C 2 dX12_isTree_23 rfl rfl ?_
        refine x_iast (pc' := 25) (ws' := [((md 0), ob 11 [.int (iI (σ 0 0)), .int (iI (k : Int)), .ref (md 1), .int (iI (nl : Int)), .ref (md 2), .ref (md 3), .int (iI (nt : Int)), .int (iI (σ 0 4)), .ref (md 4), .int (iI (nb : Int)), .long (lI (σ 0 6)), .long (lI (σ 0 7)), .ref (md 5), .ref (md 6), .ref (md 7), .ref (md 8), .int (iI (mn : Int)), .ref (md 9), .ref (md 10), .ref (md 11), .int (iI (pm : Int)), .long (lI (μ 0 0)), .long (lI (μ 0 1)), .long (lI (μ 0 2)), .long (lI (μ 0 3))]), ((md 1), ia E 56 (mI 1 4 σ)), ((md 5), ia E 6 (va_up f0 q (q : Int)))]) C q dX12_isTree_24 rfl 2 rfl (by omega) (by omega) (by omega) rfl ?_
        refine x_iinc (pc' := 28) (lv' := [(2, .int (iI ((q : Int) + 1))), (0, .ref (md 0)), (1, .int (iI (S : Int)))]) C 2 dX12_isTree_25 rfl (by decide) rfl rfl ?_
        refine x_lvI (lv' := [(2, .int (iI ((q + 1 : Nat) : Int))), (0, .ref (md 0)), (1, .int (iI (S : Int)))]) 0 rfl (by omega) rfl ?_
        refine x_goto (tgt := 12) C dX12_isTree_28 (by decide) ?_
        refine x_lv [1, 2, 0] rfl ?_
        exact ih12 ((q + 1), (va_up f0 q (q : Int))) ⟨(show (q + 1) ≤ 6 from by omega), (show ∀ p_1 : Nat, p_1 < (q + 1) → (va_up f0 q (q : Int)) p_1 = (p_1 : Int) from id_up hz)⟩ (show 6 - (q + 1) < 6 - q from by omega)
    · exact ⟨(show 0 ≤ 6 from by omega), (show ∀ p_1 : Nat, p_1 < 0 → (μ 1) p_1 = (p_1 : Int) from fun p_1 h_ => absurd h_ (Nat.not_lt_zero _))⟩
  ·
    refine x_iconst (pc' := 9) C dX12_isTree_8 rfl ?_
    refine x_top (b := .int (iI (bI (szf S 16 = 5 ∧ okT (σ 1) (σ 2) S nl = true)))) (by rw [bI_f (fun hh => c5 hh.1)]) ?_
    exact x_zret C (nar_bI) hr dX12_isTree_9 ⟨(μ 1), rfl, rfl⟩

set_option maxHeartbeats 4000000 in
set_option maxRecDepth 100000 in
theorem c_X12_isWay (l : Launch) (E : EV) (md : Nat → Nat) (k : Nat) (nl : Nat) (nt : Nat) (nb : Nat) (σ : AS) (mn : Nat) (pm : Nat) (μ : AS) (S : Nat) (hS : S < 65536) (hnl : nl ≤ 14) (hlf : ∀ j_ : Nat, j_ < nl → 0 ≤ σ 1 j_ ∧ σ 1 j_ ≤ 5) (hlt : ∀ j_ : Nat, j_ < nl → 0 ≤ σ 2 j_ ∧ σ 2 j_ ≤ 5) : MC l E yX12_isWay cX12_isWay 7 (some .boolean) ({ frames := 0, cells := 0, slots := 0, locals := 0 }) [.ref (md 0), .int (iI (S : Int))] [((md 0), ob 11 [.int (iI (σ 0 0)), .int (iI (k : Int)), .ref (md 1), .int (iI (nl : Int)), .ref (md 2), .ref (md 3), .int (iI (nt : Int)), .int (iI (σ 0 4)), .ref (md 4), .int (iI (nb : Int)), .long (lI (σ 0 6)), .long (lI (σ 0 7)), .ref (md 5), .ref (md 6), .ref (md 7), .ref (md 8), .int (iI (mn : Int)), .ref (md 9), .ref (md 10), .ref (md 11), .int (iI (pm : Int)), .long (lI (μ 0 0)), .long (lI (μ 0 1)), .long (lI (μ 0 2)), .long (lI (μ 0 3))]), ((md 1), ia E 56 (mI 1 4 σ))] (fun v_ w_ => v_ = some (.int (iI (bI (wyF nl (σ 1) (σ 2) 6 0 1 S = true)))) ∧ w_ = [((md 0), ob 11 [.int (iI (σ 0 0)), .int (iI (k : Int)), .ref (md 1), .int (iI (nl : Int)), .ref (md 2), .ref (md 3), .int (iI (nt : Int)), .int (iI (σ 0 4)), .ref (md 4), .int (iI (nb : Int)), .long (lI (σ 0 6)), .long (lI (σ 0 7)), .ref (md 5), .ref (md 6), .ref (md 7), .ref (md 8), .int (iI (mn : Int)), .ref (md 9), .ref (md 10), .ref (md 11), .int (iI (pm : Int)), .long (lI (μ 0 0)), .long (lI (μ 0 1)), .long (lI (μ 0 2)), .long (lI (μ 0 3))]), ((md 1), ia E 56 (mI 1 4 σ))]) := by
  refine MC.of (by decide +kernel) (Nat.le_of_ble_eq_true rfl) ?_
  intro p_ e_ s_ m_ args_ below_ meth_ c_ A_ C hr hnm
  have C : Cx p_ s_ m_ args_ meth_ c_ E A_ 7 cX12_isWay RX12 := C
  show Wx _ _ _ _ _ _ _ _ _ _ _ _ _ _ _ _ 0 [(0, .ref (md 0)), (1, .int (iI (S : Int)))] [] [((md 0), ob 11 [.int (iI (σ 0 0)), .int (iI (k : Int)), .ref (md 1), .int (iI (nl : Int)), .ref (md 2), .ref (md 3), .int (iI (nt : Int)), .int (iI (σ 0 4)), .ref (md 4), .int (iI (nb : Int)), .long (lI (σ 0 6)), .long (lI (σ 0 7)), .ref (md 5), .ref (md 6), .ref (md 7), .ref (md 8), .int (iI (mn : Int)), .ref (md 9), .ref (md 10), .ref (md 11), .int (iI (pm : Int)), .long (lI (μ 0 0)), .long (lI (μ 0 1)), .long (lI (μ 0 2)), .long (lI (μ 0 3))]), ((md 1), ia E 56 (mI 1 4 σ))]
  refine x_iconst (pc' := 1) C dX12_isWay_0 rfl ?_
  refine x_istore_n (pc' := 2) (lv' := [(2, .int (iI 0)), (0, .ref (md 0)), (1, .int (iI (S : Int)))]) C dX12_isWay_1 rfl (by decide) rfl ?_
  refine x_iconst (pc' := 3) C dX12_isWay_2 rfl ?_
  refine x_istore_n (pc' := 4) (lv' := [(3, .int (iI 1)), (2, .int (iI 0)), (0, .ref (md 0)), (1, .int (iI (S : Int)))]) C dX12_isWay_3 rfl (by decide) rfl ?_
  refine x_iload_n (pc' := 5) C 3 dX12_isWay_4 rfl rfl ?_
  refine x_istore (pc' := 7) (lv' := [(4, .int (iI (S : Int))), (3, .int (iI 1)), (2, .int (iI 0)), (0, .ref (md 0)), (1, .int (iI (S : Int)))]) C dX12_isWay_5 rfl (by decide) rfl ?_
  refine x_lv [3, 2, 1, 0] rfl ?_
  refine x_loop (α := (Nat) × (Nat) × (Nat) × (Nat)) (fun a_ => (a_.2.1 ≤ 5) ∧ (a_.2.2.1 < 64 ∧ Nat.testBit a_.2.2.1 0 = true) ∧ (a_.2.2.2 < 65536) ∧ (un5 a_.2.2.1 < a_.1) ∧ (wyF nl (σ 1) (σ 2) 6 0 1 S = wyF nl (σ 1) (σ 2) a_.1 a_.2.1 a_.2.2.1 a_.2.2.2)) (fun a_ => un5 a_.2.2.1) (fun a_ => [(0, .ref (md 0)), (2, .int (iI (a_.2.1 : Int))), (3, .int (iI (a_.2.2.1 : Int))), (4, .int (iI (a_.2.2.2 : Int)))]) (fun a_ => [((md 0), ob 11 [.int (iI (σ 0 0)), .int (iI (k : Int)), .ref (md 1), .int (iI (nl : Int)), .ref (md 2), .ref (md 3), .int (iI (nt : Int)), .int (iI (σ 0 4)), .ref (md 4), .int (iI (nb : Int)), .long (lI (σ 0 6)), .long (lI (σ 0 7)), .ref (md 5), .ref (md 6), .ref (md 7), .ref (md 8), .int (iI (mn : Int)), .ref (md 9), .ref (md 10), .ref (md 11), .int (iI (pm : Int)), .long (lI (μ 0 0)), .long (lI (μ 0 1)), .long (lI (μ 0 2)), .long (lI (μ 0 3))]), ((md 1), ia E 56 (mI 1 4 σ))]) ?_ (6, 0, 1, S) ?_
  · intro a_ hI_ ih7
    obtain ⟨d, a, met, left⟩ := a_
    obtain ⟨ha, hm, hl_, hd, he⟩ := hI_
    replace ha : a ≤ 5 := ha
    replace hm : met < 64 ∧ Nat.testBit met 0 = true := hm
    replace hl_ : left < 65536 := hl_
    replace hd : un5 met < d := hd
    replace he : wyF nl (σ 1) (σ 2) 6 0 1 S = wyF nl (σ 1) (σ 2) d a met left := he
    show Wx _ _ _ _ _ _ _ _ _ _ _ _ _ _ _ _ 7 [(0, .ref (md 0)), (2, .int (iI (a : Int))), (3, .int (iI (met : Int))), (4, .int (iI (left : Int)))] [] [((md 0), ob 11 [.int (iI (σ 0 0)), .int (iI (k : Int)), .ref (md 1), .int (iI (nl : Int)), .ref (md 2), .ref (md 3), .int (iI (nt : Int)), .int (iI (σ 0 4)), .ref (md 4), .int (iI (nb : Int)), .long (lI (σ 0 6)), .long (lI (σ 0 7)), .ref (md 5), .ref (md 6), .ref (md 7), .ref (md 8), .int (iI (mn : Int)), .ref (md 9), .ref (md 10), .ref (md 11), .int (iI (pm : Int)), .long (lI (μ 0 0)), .long (lI (μ 0 1)), .long (lI (μ 0 2)), .long (lI (μ 0 3))]), ((md 1), ia E 56 (mI 1 4 σ))]
    refine x_iload_n (pc' := 8) C 1 dX12_isWay_7 rfl rfl ?_
    refine x_iconst (pc' := 9) C dX12_isWay_8 rfl ?_
    refine x_icmp_eq (pc' := 12) (tgt := 125) C dX12_isWay_9 rfl (by decide) (by omega) (by omega) (fun c9 => ?_) (fun c9 => ?_)
    ·
      refine x_iload (pc' := 127) C 3 dX12_isWay_125 rfl rfl ?_
      refine x_if_ne (pc' := 130) (tgt := 134) C dX12_isWay_127 rfl (by decide) (by omega) (fun c127 => ?_) (fun c127 => ?_)
      ·
        refine x_iconst (pc' := 135) C dX12_isWay_134 rfl ?_
        refine x_top (b := .int (iI (bI (wyF nl (σ 1) (σ 2) 6 0 1 S = true)))) (by rw [he, wy_5 (by omega) (by omega)]; first | rw [bI_t (decide_eq_true (by omega))] | rw [bI_f (by rw [decide_eq_false (by omega)]; decide)]) ?_
        exact x_zret C (nar_bI) hr dX12_isWay_135 ⟨rfl, rfl⟩
      ·
        refine x_iconst (pc' := 131) C dX12_isWay_130 rfl ?_
        refine x_goto (tgt := 135) C dX12_isWay_131 (by decide) ?_
        refine x_top (b := .int (iI (bI (wyF nl (σ 1) (σ 2) 6 0 1 S = true)))) (by rw [he, wy_5 (by omega) (by omega)]; first | rw [bI_t (decide_eq_true (by omega))] | rw [bI_f (by rw [decide_eq_false (by omega)]; decide)]) ?_
        exact x_zret C (nar_bI) hr dX12_isWay_135 ⟨rfl, rfl⟩
    ·
      refine x_iconst (pc' := 13) C dX12_isWay_12 rfl ?_
      refine x_istore (pc' := 15) (lv' := [(5, .int (iI (-1))), (0, .ref (md 0)), (2, .int (iI (a : Int))), (3, .int (iI (met : Int))), (4, .int (iI (left : Int)))]) C dX12_isWay_13 rfl (by decide) rfl ?_
      refine x_iconst (pc' := 16) C dX12_isWay_15 rfl ?_
      refine x_istore (pc' := 18) (lv' := [(6, .int (iI 0)), (5, .int (iI (-1))), (0, .ref (md 0)), (2, .int (iI (a : Int))), (3, .int (iI (met : Int))), (4, .int (iI (left : Int)))]) C dX12_isWay_16 rfl (by decide) rfl ?_
      refine x_lv [2, 3, 4, 5, 1, 0] rfl ?_
      refine x_loop (α := (Nat) × (Int)) (fun a_ => (a_.1 ≤ nl) ∧ (a_.2 = wnx (σ 1) a left a_.1)) (fun a_ => nl - a_.1) (fun a_ => [(0, .ref (md 0)), (2, .int (iI (a : Int))), (3, .int (iI (met : Int))), (4, .int (iI (left : Int))), (5, .int (iI a_.2)), (6, .int (iI (a_.1 : Int)))]) (fun a_ => [((md 0), ob 11 [.int (iI (σ 0 0)), .int (iI (k : Int)), .ref (md 1), .int (iI (nl : Int)), .ref (md 2), .ref (md 3), .int (iI (nt : Int)), .int (iI (σ 0 4)), .ref (md 4), .int (iI (nb : Int)), .long (lI (σ 0 6)), .long (lI (σ 0 7)), .ref (md 5), .ref (md 6), .ref (md 7), .ref (md 8), .int (iI (mn : Int)), .ref (md 9), .ref (md 10), .ref (md 11), .int (iI (pm : Int)), .long (lI (μ 0 0)), .long (lI (μ 0 1)), .long (lI (μ 0 2)), .long (lI (μ 0 3))]), ((md 1), ia E 56 (mI 1 4 σ))]) ?_ (0, (-1)) ?_
      · intro a_ hI_ ih18
        obtain ⟨l_, x⟩ := a_
        obtain ⟨hi, hx⟩ := hI_
        replace hi : l_ ≤ nl := hi
        replace hx : x = wnx (σ 1) a left l_ := hx
        show Wx _ _ _ _ _ _ _ _ _ _ _ _ _ _ _ _ 18 [(0, .ref (md 0)), (2, .int (iI (a : Int))), (3, .int (iI (met : Int))), (4, .int (iI (left : Int))), (5, .int (iI x)), (6, .int (iI (l_ : Int)))] [] [((md 0), ob 11 [.int (iI (σ 0 0)), .int (iI (k : Int)), .ref (md 1), .int (iI (nl : Int)), .ref (md 2), .ref (md 3), .int (iI (nt : Int)), .int (iI (σ 0 4)), .ref (md 4), .int (iI (nb : Int)), .long (lI (σ 0 6)), .long (lI (σ 0 7)), .ref (md 5), .ref (md 6), .ref (md 7), .ref (md 8), .int (iI (mn : Int)), .ref (md 9), .ref (md 10), .ref (md 11), .int (iI (pm : Int)), .long (lI (μ 0 0)), .long (lI (μ 0 1)), .long (lI (μ 0 2)), .long (lI (μ 0 3))]), ((md 1), ia E 56 (mI 1 4 σ))]
        refine x_iload (pc' := 20) C 5 dX12_isWay_18 rfl rfl ?_
        refine x_aload_n (pc' := 21) C 0 dX12_isWay_20 rfl rfl ?_
        refine x_get (pc' := 24) C dX12_isWay_21 rfl ff_X12_74_11 0 rfl rfl ?_
        refine x_icmp_ge (pc' := 27) (tgt := 66) C dX12_isWay_24 rfl (by decide) (by omega) (by omega) (fun c24 => ?_) (fun c24 => ?_)
        ·
          have hrg := wnx_rg (lf := σ 1) (a := a) (left := left) l_
          rw [← hx] at hrg
          have hxn : x = wnx (σ 1) a left nl := by rw [hx, show l_ = nl by omega]
          refine x_iload (pc' := 68) C 4 dX12_isWay_66 rfl rfl ?_
          refine x_iconst (pc' := 69) C dX12_isWay_68 rfl ?_
          refine x_icmp_eq (pc' := 72) (tgt := 91) C dX12_isWay_69 rfl (by decide) (by omega) (by omega) (fun c69 => ?_) (fun c69 => ?_)
          ·
            refine x_iconst (pc' := 92) C dX12_isWay_91 rfl ?_
            refine x_top (b := .int (iI (bI (wyF nl (σ 1) (σ 2) 6 0 1 S = true)))) (by rw [bI_f (by rw [he, wy_no (by omega) (by rw [← hxn]; first | exact Or.inl c69 | exact Or.inr c88)]; decide)]) ?_
            exact x_zret C (nar_bI) hr dX12_isWay_92 ⟨rfl, rfl⟩
          ·
            have ht1 := hlt x.toNat (by omega)
            have hxe : iI x = iI ((x.toNat : Nat) : Int) := by congr 1; omega
            refine x_iload_n (pc' := 73) C 2 dX12_isWay_72 rfl rfl ?_
            refine x_aload_n (pc' := 74) C 0 dX12_isWay_73 rfl rfl ?_
            refine x_get (pc' := 77) C dX12_isWay_74 rfl ff_X12_13_11 0 rfl rfl ?_
            refine x_iconst (pc' := 78) C dX12_isWay_77 rfl ?_
            refine x_iload (pc' := 80) C 4 dX12_isWay_78 rfl rfl ?_
            refine x_imul (pc' := 81) C dX12_isWay_80 rfl ?_
            refine x_iconst (pc' := 82) C dX12_isWay_81 rfl ?_
            refine x_iadd (pc' := 83) C dX12_isWay_82 rfl ?_
            refine x_iald (pc' := 84) C (4 * x.toNat + 1) dX12_isWay_83 rfl 1 rfl (by omega) (by omega) (by omega) ?_
            refine x_top (b := .int (iI (((σ 2 x.toNat).toNat : Nat) : Int))) (by rw [mI_at (d := 1) (by decide)]; show Value.int (iI (σ 2 x.toNat)) = _; congr 2; omega) ?_
            refine x_ishr (pc' := 85) (z := (iI ((met / 2 ^ (σ 2 x.toNat).toNat : Nat) : Int))) C dX12_isWay_84 rfl (bt_shr (by omega) (by omega)) ?_
            refine x_iconst (pc' := 86) C dX12_isWay_85 rfl ?_
            refine x_iand (pc' := 87) (z := (iI (bI (met.testBit (σ 2 x.toNat).toNat = true)))) C dX12_isWay_86 rfl (bt_bit) ?_
            refine x_iconst (pc' := 88) C dX12_isWay_87 rfl ?_
            refine x_icmp_ne (pc' := 91) (tgt := 93) C dX12_isWay_88 rfl (by decide) (bI_rng) (by omega) (fun c88 => ?_) (fun c88 => ?_)
            ·
              replace c88 := bI_n1 c88
              have hsd := sdiff_le left (2 ^ x.toNat)
              have hnz : ¬ σ 2 x.toNat = 0 := by intro hh; apply c88; rw [hh]; exact hm.2
              have hul := un5_less (met := met) (p := (σ 2 x.toNat).toNat) (by omega) (by omega) c88
              have hmo : met ||| 2 ^ (σ 2 x.toNat).toNat < 2 ^ 6 := or_bd (N := 6) hm.1 (by omega)
              refine x_iload (pc' := 95) C 3 dX12_isWay_93 rfl rfl ?_
              refine x_iconst (pc' := 96) C dX12_isWay_95 rfl ?_
              refine x_iload (pc' := 98) C 4 dX12_isWay_96 rfl rfl ?_
              refine x_ishl (pc' := 99) (z := (iI ((2 ^ x.toNat : Nat) : Int))) C dX12_isWay_98 rfl (by rw [hxe]; exact bt_shl (by omega)) ?_
              refine x_iconst (pc' := 100) C dX12_isWay_99 rfl ?_
              refine x_ixor (pc' := 101) (z := (iI ((2 ^ x.toNat : Nat) : Int) ^^^ iI (-1))) C dX12_isWay_100 rfl (rfl) ?_
              refine x_iand (pc' := 102) (z := (iI ((sdiff left (2 ^ x.toNat) : Nat) : Int))) C dX12_isWay_101 rfl (bt_andn _ _) ?_
              refine x_istore (pc' := 104) (lv' := [(4, .int (iI ((sdiff left (2 ^ x.toNat) : Nat) : Int))), (0, .ref (md 0)), (2, .int (iI (a : Int))), (3, .int (iI (met : Int))), (5, .int (iI x)), (6, .int (iI (l_ : Int)))]) C dX12_isWay_102 rfl (by decide) rfl ?_
              refine x_aload_n (pc' := 105) C 1 dX12_isWay_104 rfl rfl ?_
              refine x_get (pc' := 108) C dX12_isWay_105 rfl ff_X12_13_11 0 rfl rfl ?_
              refine x_iconst (pc' := 109) C dX12_isWay_108 rfl ?_
              refine x_iload (pc' := 111) C 4 dX12_isWay_109 rfl rfl ?_
              refine x_imul (pc' := 112) C dX12_isWay_111 rfl ?_
              refine x_iconst (pc' := 113) C dX12_isWay_112 rfl ?_
              refine x_iadd (pc' := 114) C dX12_isWay_113 rfl ?_
              refine x_iald (pc' := 115) C (4 * x.toNat + 1) dX12_isWay_114 rfl 1 rfl (by omega) (by omega) (by omega) ?_
              refine x_top (b := .int (iI (((σ 2 x.toNat).toNat : Nat) : Int))) (by rw [mI_at (d := 1) (by decide)]; show Value.int (iI (σ 2 x.toNat)) = _; congr 2; omega) ?_
              refine x_istore_n (pc' := 116) (lv' := [(2, .int (iI (((σ 2 x.toNat).toNat : Nat) : Int))), (4, .int (iI ((sdiff left (2 ^ x.toNat) : Nat) : Int))), (0, .ref (md 0)), (3, .int (iI (met : Int))), (5, .int (iI x)), (6, .int (iI (l_ : Int)))]) C dX12_isWay_115 rfl (by decide) rfl ?_
              refine x_iload_n (pc' := 117) C 3 dX12_isWay_116 rfl rfl ?_
              refine x_iconst (pc' := 118) C dX12_isWay_117 rfl ?_
              refine x_iload_n (pc' := 119) C 0 dX12_isWay_118 rfl rfl ?_
              refine x_ishl (pc' := 120) (z := (iI ((2 ^ (σ 2 x.toNat).toNat : Nat) : Int))) C dX12_isWay_119 rfl (bt_shl (by omega)) ?_
              refine x_ior (pc' := 121) (z := (iI ((met ||| 2 ^ (σ 2 x.toNat).toNat : Nat) : Int))) C dX12_isWay_120 rfl (bt_or _ _) ?_
              refine x_istore_n (pc' := 122) (lv' := [(3, .int (iI ((met ||| 2 ^ (σ 2 x.toNat).toNat : Nat) : Int))), (2, .int (iI (((σ 2 x.toNat).toNat : Nat) : Int))), (4, .int (iI ((sdiff left (2 ^ x.toNat) : Nat) : Int))), (0, .ref (md 0)), (5, .int (iI x)), (6, .int (iI (l_ : Int)))]) C dX12_isWay_121 rfl (by decide) rfl ?_
              refine x_goto (tgt := 7) C dX12_isWay_122 (by decide) ?_
              refine x_lv [3, 1, 0, 2] rfl ?_
              exact ih7 ((d - 1), ((σ 2 x.toNat).toNat), (met ||| 2 ^ (σ 2 x.toNat).toNat), (sdiff left (2 ^ x.toNat))) ⟨(show ((σ 2 x.toNat).toNat) ≤ 5 from by omega), (show (met ||| 2 ^ (σ 2 x.toNat).toNat) < 64 ∧ Nat.testBit (met ||| 2 ^ (σ 2 x.toNat).toNat) 0 = true from ⟨hmo, by rw [Nat.testBit_or, hm.2]; rfl⟩), (show (sdiff left (2 ^ x.toNat)) < 65536 from by omega), (show un5 (met ||| 2 ^ (σ 2 x.toNat).toNat) < (d - 1) from by omega), (show wyF nl (σ 1) (σ 2) 6 0 1 S = wyF nl (σ 1) (σ 2) (d - 1) ((σ 2 x.toNat).toNat) (met ||| 2 ^ (σ 2 x.toNat).toNat) (sdiff left (2 ^ x.toNat)) from by rw [he]; exact wy_go (by omega) hxn (by omega) c69 c88)⟩ (show un5 (met ||| 2 ^ (σ 2 x.toNat).toNat) < un5 met from by omega)
            ·
              replace c88 := bI_1 c88
              refine x_iconst (pc' := 92) C dX12_isWay_91 rfl ?_
              refine x_top (b := .int (iI (bI (wyF nl (σ 1) (σ 2) 6 0 1 S = true)))) (by rw [bI_f (by rw [he, wy_no (by omega) (by rw [← hxn]; first | exact Or.inl c69 | exact Or.inr c88)]; decide)]) ?_
              exact x_zret C (nar_bI) hr dX12_isWay_92 ⟨rfl, rfl⟩
        ·
          refine x_iload (pc' := 29) C 3 dX12_isWay_27 rfl rfl ?_
          refine x_iload (pc' := 31) C 5 dX12_isWay_29 rfl rfl ?_
          refine x_ishr (pc' := 32) (z := (iI ((left / 2 ^ l_ : Nat) : Int))) C dX12_isWay_31 rfl (bt_shr (by omega) (by omega)) ?_
          refine x_iconst (pc' := 33) C dX12_isWay_32 rfl ?_
          refine x_iand (pc' := 34) (z := (iI (bI (left.testBit l_ = true)))) C dX12_isWay_33 rfl (bt_bit) ?_
          refine x_iconst (pc' := 35) C dX12_isWay_34 rfl ?_
          refine x_icmp_ne (pc' := 38) (tgt := 56) C dX12_isWay_35 rfl (by decide) (bI_rng) (by omega) (fun c35 => ?_) (fun c35 => ?_)
          ·
            replace c35 := bI_n1 c35
            refine x_iload (pc' := 58) C 4 dX12_isWay_56 rfl rfl ?_
            refine x_istore (pc' := 60) (lv' := [(5, .int (iI x)), (0, .ref (md 0)), (2, .int (iI (a : Int))), (3, .int (iI (met : Int))), (4, .int (iI (left : Int))), (6, .int (iI (l_ : Int)))]) C dX12_isWay_58 rfl (by decide) rfl ?_
            refine x_iinc (pc' := 63) (lv' := [(6, .int (iI ((l_ : Int) + 1))), (5, .int (iI x)), (0, .ref (md 0)), (2, .int (iI (a : Int))), (3, .int (iI (met : Int))), (4, .int (iI (left : Int)))]) C 5 dX12_isWay_60 rfl (by decide) rfl rfl ?_
            refine x_lvI (lv' := [(6, .int (iI ((l_ + 1 : Nat) : Int))), (5, .int (iI x)), (0, .ref (md 0)), (2, .int (iI (a : Int))), (3, .int (iI (met : Int))), (4, .int (iI (left : Int)))]) 0 rfl (by omega) rfl ?_
            refine x_goto (tgt := 18) C dX12_isWay_63 (by decide) ?_
            refine x_lv [2, 3, 4, 5, 1, 0] rfl ?_
            exact ih18 ((l_ + 1), x) ⟨(show (l_ + 1) ≤ nl from by omega), (show x = wnx (σ 1) a left (l_ + 1) from by first | exact wnx_in ⟨c35, c48⟩ | exact wnx_out hx (fun hh => c35 hh.1) | exact wnx_out hx (fun hh => c48 hh.2))⟩ (show nl - (l_ + 1) < nl - l_ from by omega)
          ·
            replace c35 := bI_1 c35
            have hf1 := hlf l_ (by omega)
            refine x_aload_n (pc' := 39) C 0 dX12_isWay_38 rfl rfl ?_
            refine x_get (pc' := 42) C dX12_isWay_39 rfl ff_X12_13_11 0 rfl rfl ?_
            refine x_iconst (pc' := 43) C dX12_isWay_42 rfl ?_
            refine x_iload (pc' := 45) C 5 dX12_isWay_43 rfl rfl ?_
            refine x_imul (pc' := 46) C dX12_isWay_45 rfl ?_
            refine x_iald (pc' := 47) C (4 * l_) dX12_isWay_46 rfl 1 rfl (by omega) (by omega) (by omega) ?_
            refine x_top (b := .int (iI (σ 1 l_))) (by rw [mI_at0 (by decide)]) ?_
            refine x_iload_n (pc' := 48) C 1 dX12_isWay_47 rfl rfl ?_
            refine x_icmp_ne (pc' := 51) (tgt := 56) C dX12_isWay_48 rfl (by decide) (by omega) (by omega) (fun c48 => ?_) (fun c48 => ?_)
            ·
              refine x_iload (pc' := 58) C 4 dX12_isWay_56 rfl rfl ?_
              refine x_istore (pc' := 60) (lv' := [(5, .int (iI x)), (0, .ref (md 0)), (2, .int (iI (a : Int))), (3, .int (iI (met : Int))), (4, .int (iI (left : Int))), (6, .int (iI (l_ : Int)))]) C dX12_isWay_58 rfl (by decide) rfl ?_
              refine x_iinc (pc' := 63) (lv' := [(6, .int (iI ((l_ : Int) + 1))), (5, .int (iI x)), (0, .ref (md 0)), (2, .int (iI (a : Int))), (3, .int (iI (met : Int))), (4, .int (iI (left : Int)))]) C 5 dX12_isWay_60 rfl (by decide) rfl rfl ?_
              refine x_lvI (lv' := [(6, .int (iI ((l_ + 1 : Nat) : Int))), (5, .int (iI x)), (0, .ref (md 0)), (2, .int (iI (a : Int))), (3, .int (iI (met : Int))), (4, .int (iI (left : Int)))]) 0 rfl (by omega) rfl ?_
              refine x_goto (tgt := 18) C dX12_isWay_63 (by decide) ?_
              refine x_lv [2, 3, 4, 5, 1, 0] rfl ?_
              exact ih18 ((l_ + 1), x) ⟨(show (l_ + 1) ≤ nl from by omega), (show x = wnx (σ 1) a left (l_ + 1) from by first | exact wnx_in ⟨c35, c48⟩ | exact wnx_out hx (fun hh => c35 hh.1) | exact wnx_out hx (fun hh => c48 hh.2))⟩ (show nl - (l_ + 1) < nl - l_ from by omega)
            ·
              refine x_iload (pc' := 53) C 5 dX12_isWay_51 rfl rfl ?_
              refine x_goto (tgt := 58) C dX12_isWay_53 (by decide) ?_
              refine x_istore (pc' := 60) (lv' := [(5, .int (iI (l_ : Int))), (0, .ref (md 0)), (2, .int (iI (a : Int))), (3, .int (iI (met : Int))), (4, .int (iI (left : Int))), (6, .int (iI (l_ : Int)))]) C dX12_isWay_58 rfl (by decide) rfl ?_
              refine x_iinc (pc' := 63) (lv' := [(6, .int (iI ((l_ : Int) + 1))), (5, .int (iI (l_ : Int))), (0, .ref (md 0)), (2, .int (iI (a : Int))), (3, .int (iI (met : Int))), (4, .int (iI (left : Int)))]) C 5 dX12_isWay_60 rfl (by decide) rfl rfl ?_
              refine x_lvI (lv' := [(6, .int (iI ((l_ + 1 : Nat) : Int))), (5, .int (iI (l_ : Int))), (0, .ref (md 0)), (2, .int (iI (a : Int))), (3, .int (iI (met : Int))), (4, .int (iI (left : Int)))]) 0 rfl (by omega) rfl ?_
              refine x_goto (tgt := 18) C dX12_isWay_63 (by decide) ?_
              refine x_lv [2, 3, 4, 5, 1, 0] rfl ?_
              exact ih18 ((l_ + 1), (l_ : Int)) ⟨(show (l_ + 1) ≤ nl from by omega), (show (l_ : Int) = wnx (σ 1) a left (l_ + 1) from by first | exact wnx_in ⟨c35, c48⟩ | exact wnx_out hx (fun hh => c35 hh.1) | exact wnx_out hx (fun hh => c48 hh.2))⟩ (show nl - (l_ + 1) < nl - l_ from by omega)
      · exact ⟨(show 0 ≤ nl from by omega), (show (-1) = wnx (σ 1) a left 0 from rfl)⟩
  · exact ⟨(show 0 ≤ 5 from by omega), (show 1 < 64 ∧ Nat.testBit 1 0 = true from ⟨by decide, by decide⟩), (show S < 65536 from by omega), (show un5 1 < 6 from by decide), (show wyF nl (σ 1) (σ 2) 6 0 1 S = wyF nl (σ 1) (σ 2) 6 0 1 S from rfl)⟩
