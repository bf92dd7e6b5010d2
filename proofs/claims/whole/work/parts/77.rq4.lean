set_option maxHeartbeats 4000000 in
set_option maxRecDepth 100000 in
theorem c_X12_findPieces (l : Launch) (E : EV) (md : Nat → Nat) (k : Nat) (nl : Nat) (nt : Nat) (nb : Nat) (σ : AS) (mn : Nat) (pm : Nat) (μ : AS) (hmn : mn ≤ 2002) (h0 : 0 < mn) (hA : ∀ j_ : Nat, j_ < mn → -1600 ≤ μ 3 j_ ∧ μ 3 j_ ≤ 1600) (hB : ∀ j_ : Nat, j_ < mn → -1600 ≤ μ 4 j_ ∧ μ 4 j_ ≤ 1600) (hT : 1 ≤ σ 0 0 ∧ σ 0 0 ≤ 100) (h140 : (pseq (μ 3) (μ 4) mn (σ 0 0) 140).1 = -1) : MC l E yX12_findPieces cX12_findPieces 13 (none) ({ frames := 0, cells := 0, slots := 0, locals := 0 }) [.ref (md 0)] [((md 0), ob 11 [.int (iI (σ 0 0)), .int (iI (k : Int)), .ref (md 1), .int (iI (nl : Int)), .ref (md 2), .ref (md 3), .int (iI (nt : Int)), .int (iI (σ 0 4)), .ref (md 4), .int (iI (nb : Int)), .long (lI (σ 0 6)), .long (lI (σ 0 7)), .ref (md 5), .ref (md 6), .ref (md 7), .ref (md 8), .int (iI (mn : Int)), .ref (md 9), .ref (md 10), .ref (md 11), .int (iI (pm : Int)), .long (lI (μ 0 0)), .long (lI (μ 0 1)), .long (lI (μ 0 2)), .long (lI (μ 0 3))]), ((md 1), ia E 56 (mI 1 4 σ)), ((md 2), ia E 32 (mI 5 2 σ)), ((md 3), ia E 24 (mI 7 3 σ)), ((md 4), ia E 24 (mI 10 3 σ)), ((md 5), ia E 6 (μ 1)), ((md 6), ia E 16384 (μ 2)), ((md 7), ia E 16384 (μ 3)), ((md 8), ia E 16384 (μ 4)), ((md 9), ia E 2048 (μ 5)), ((md 10), la E 2048 (μ 6)), ((md 11), la E 2048 (μ 7))] (fun v_ w_ => ∃ (pm2 : Nat) (μ2 : AS), v_ = none ∧ w_ = [((md 0), ob 11 [.int (iI (σ 0 0)), .int (iI (k : Int)), .ref (md 1), .int (iI (nl : Int)), .ref (md 2), .ref (md 3), .int (iI (nt : Int)), .int (iI (σ 0 4)), .ref (md 4), .int (iI (nb : Int)), .long (lI (σ 0 6)), .long (lI (σ 0 7)), .ref (md 5), .ref (md 6), .ref (md 7), .ref (md 8), .int (iI (mn : Int)), .ref (md 9), .ref (md 10), .ref (md 11), .int (iI (pm2 : Int)), .long (lI (μ2 0 0)), .long (lI (μ2 0 1)), .long (lI (μ2 0 2)), .long (lI (μ2 0 3))]), ((md 1), ia E 56 (mI 1 4 σ)), ((md 2), ia E 32 (mI 5 2 σ)), ((md 3), ia E 24 (mI 7 3 σ)), ((md 4), ia E 24 (mI 10 3 σ)), ((md 5), ia E 6 (μ2 1)), ((md 6), ia E 16384 (μ2 2)), ((md 7), ia E 16384 (μ2 3)), ((md 8), ia E 16384 (μ2 4)), ((md 9), ia E 2048 (μ2 5)), ((md 10), la E 2048 (μ2 6)), ((md 11), la E 2048 (μ2 7))] ∧ (FPc σ μ2 mn pm2) ∧ (μ2 2 = μ 2 ∧ μ2 3 = μ 3 ∧ μ2 4 = μ 4)) := by
  refine MC.of (by decide +kernel) (Nat.le_of_ble_eq_true rfl) ?_
  intro p_ e_ s_ m_ args_ below_ meth_ c_ A_ C hr hnm
  have C : Cx p_ s_ m_ args_ meth_ c_ E A_ 13 cX12_findPieces RX12 := C
  show Wx _ _ _ _ _ _ _ _ _ _ _ _ _ _ _ _ 0 [(0, .ref (md 0))] [] [((md 0), ob 11 [.int (iI (σ 0 0)), .int (iI (k : Int)), .ref (md 1), .int (iI (nl : Int)), .ref (md 2), .ref (md 3), .int (iI (nt : Int)), .int (iI (σ 0 4)), .ref (md 4), .int (iI (nb : Int)), .long (lI (σ 0 6)), .long (lI (σ 0 7)), .ref (md 5), .ref (md 6), .ref (md 7), .ref (md 8), .int (iI (mn : Int)), .ref (md 9), .ref (md 10), .ref (md 11), .int (iI (pm : Int)), .long (lI (μ 0 0)), .long (lI (μ 0 1)), .long (lI (μ 0 2)), .long (lI (μ 0 3))]), ((md 1), ia E 56 (mI 1 4 σ)), ((md 2), ia E 32 (mI 5 2 σ)), ((md 3), ia E 24 (mI 7 3 σ)), ((md 4), ia E 24 (mI 10 3 σ)), ((md 5), ia E 6 (μ 1)), ((md 6), ia E 16384 (μ 2)), ((md 7), ia E 16384 (μ 3)), ((md 8), ia E 16384 (μ 4)), ((md 9), ia E 2048 (μ 5)), ((md 10), la E 2048 (μ 6)), ((md 11), la E 2048 (μ 7))]
  refine x_iconst (pc' := 1) C dX12_findPieces_0 rfl ?_
  refine x_istore_n (pc' := 2) (lv' := [(1, .int (iI 0)), (0, .ref (md 0))]) C dX12_findPieces_1 rfl (by decide) rfl ?_
  refine x_iconst (pc' := 3) C dX12_findPieces_2 rfl ?_
  refine x_istore_n (pc' := 4) (lv' := [(2, .int (iI 1)), (1, .int (iI 0)), (0, .ref (md 0))]) C dX12_findPieces_3 rfl (by decide) rfl ?_
  refine x_lv [2, 1, 0] rfl ?_
  refine x_loop (α := (Nat) × (Nat)) (fun a_ => (1 ≤ a_.1 ∧ a_.1 ≤ mn) ∧ (a_.2 < mn) ∧ (a_.2 = fpl (μ 3) (μ 4) a_.1)) (fun a_ => mn - a_.1) (fun a_ => [(0, .ref (md 0)), (1, .int (iI (a_.2 : Int))), (2, .int (iI (a_.1 : Int)))]) (fun a_ => [((md 0), ob 11 [.int (iI (σ 0 0)), .int (iI (k : Int)), .ref (md 1), .int (iI (nl : Int)), .ref (md 2), .ref (md 3), .int (iI (nt : Int)), .int (iI (σ 0 4)), .ref (md 4), .int (iI (nb : Int)), .long (lI (σ 0 6)), .long (lI (σ 0 7)), .ref (md 5), .ref (md 6), .ref (md 7), .ref (md 8), .int (iI (mn : Int)), .ref (md 9), .ref (md 10), .ref (md 11), .int (iI (pm : Int)), .long (lI (μ 0 0)), .long (lI (μ 0 1)), .long (lI (μ 0 2)), .long (lI (μ 0 3))]), ((md 1), ia E 56 (mI 1 4 σ)), ((md 2), ia E 32 (mI 5 2 σ)), ((md 3), ia E 24 (mI 7 3 σ)), ((md 4), ia E 24 (mI 10 3 σ)), ((md 5), ia E 6 (μ 1)), ((md 6), ia E 16384 (μ 2)), ((md 7), ia E 16384 (μ 3)), ((md 8), ia E 16384 (μ 4)), ((md 9), ia E 2048 (μ 5)), ((md 10), la E 2048 (μ 6)), ((md 11), la E 2048 (μ 7))]) ?_ (1, 0) ?_
  · intro a_ hI_ ih4
    obtain ⟨i, j⟩ := a_
    obtain ⟨hi, hj, hb_⟩ := hI_
    replace hi : 1 ≤ i ∧ i ≤ mn := hi
    replace hj : j < mn := hj
    replace hb_ : j = fpl (μ 3) (μ 4) i := hb_
    show Wx _ _ _ _ _ _ _ _ _ _ _ _ _ _ _ _ 4 [(0, .ref (md 0)), (1, .int (iI (j : Int))), (2, .int (iI (i : Int)))] [] [((md 0), ob 11 [.int (iI (σ 0 0)), .int (iI (k : Int)), .ref (md 1), .int (iI (nl : Int)), .ref (md 2), .ref (md 3), .int (iI (nt : Int)), .int (iI (σ 0 4)), .ref (md 4), .int (iI (nb : Int)), .long (lI (σ 0 6)), .long (lI (σ 0 7)), .ref (md 5), .ref (md 6), .ref (md 7), .ref (md 8), .int (iI (mn : Int)), .ref (md 9), .ref (md 10), .ref (md 11), .int (iI (pm : Int)), .long (lI (μ 0 0)), .long (lI (μ 0 1)), .long (lI (μ 0 2)), .long (lI (μ 0 3))]), ((md 1), ia E 56 (mI 1 4 σ)), ((md 2), ia E 32 (mI 5 2 σ)), ((md 3), ia E 24 (mI 7 3 σ)), ((md 4), ia E 24 (mI 10 3 σ)), ((md 5), ia E 6 (μ 1)), ((md 6), ia E 16384 (μ 2)), ((md 7), ia E 16384 (μ 3)), ((md 8), ia E 16384 (μ 4)), ((md 9), ia E 2048 (μ 5)), ((md 10), la E 2048 (μ 6)), ((md 11), la E 2048 (μ 7))]
    refine x_iload_n (pc' := 5) C 2 dX12_findPieces_4 rfl rfl ?_
    refine x_aload_n (pc' := 6) C 0 dX12_findPieces_5 rfl rfl ?_
    refine x_get (pc' := 9) C dX12_findPieces_6 rfl ff_X12_113_11 0 rfl rfl ?_
    refine x_icmp_ge (pc' := 12) (tgt := 69) C dX12_findPieces_9 rfl (by decide) (by omega) (by omega) (fun c9 => ?_) (fun c9 => ?_)
    ·
      refine x_aload_n (pc' := 70) C 0 dX12_findPieces_69 rfl rfl ?_
      refine x_iconst (pc' := 71) C dX12_findPieces_70 rfl ?_
      refine x_put (pc' := 74) (ws' := [((md 0), ob 11 [.int (iI (σ 0 0)), .int (iI (k : Int)), .ref (md 1), .int (iI (nl : Int)), .ref (md 2), .ref (md 3), .int (iI (nt : Int)), .int (iI (σ 0 4)), .ref (md 4), .int (iI (nb : Int)), .long (lI (σ 0 6)), .long (lI (σ 0 7)), .ref (md 5), .ref (md 6), .ref (md 7), .ref (md 8), .int (iI (mn : Int)), .ref (md 9), .ref (md 10), .ref (md 11), .int (iI 0), .long (lI (μ 0 0)), .long (lI (μ 0 1)), .long (lI (μ 0 2)), .long (lI (μ 0 3))]), ((md 1), ia E 56 (mI 1 4 σ)), ((md 2), ia E 32 (mI 5 2 σ)), ((md 3), ia E 24 (mI 7 3 σ)), ((md 4), ia E 24 (mI 10 3 σ)), ((md 5), ia E 6 (μ 1)), ((md 6), ia E 16384 (μ 2)), ((md 7), ia E 16384 (μ 3)), ((md 8), ia E 16384 (μ 4)), ((md 9), ia E 2048 (μ 5)), ((md 10), la E 2048 (μ 6)), ((md 11), la E 2048 (μ 7))]) C dX12_findPieces_71 rfl pf_X12_143_11 0 rfl rfl rfl (Nat.le_of_ble_eq_true rfl) rfl ?_
      refine x_lconst (pc' := 75) (z := 0) C dX12_findPieces_74 rfl rfl ?_
      refine x_lstore_n (pc' := 76) (lv' := [(2, .long (lI 0)), (0, .ref (md 0)), (1, .int (iI (j : Int)))]) C dX12_findPieces_75 rfl (by decide) rfl ?_
      refine x_lconst (pc' := 77) (z := 1) C dX12_findPieces_76 rfl rfl ?_
      refine x_lstore (pc' := 79) (lv' := [(4, .long (lI 1)), (2, .long (lI 0)), (0, .ref (md 0)), (1, .int (iI (j : Int)))]) C dX12_findPieces_77 rfl (by decide) rfl ?_
      refine x_lv [2, 3, 1, 0] rfl ?_
      refine x_loop (α := (Nat) × (Int) × (Int) × (Int) × (Nat → Int) × (Nat → Int) × (Nat → Int)) (fun a_ => (-1 ≤ a_.2.1 ∧ a_.2.1 < (mn : Int)) ∧ (a_.2.1 = (pseq (μ 3) (μ 4) mn (σ 0 0) a_.1).1) ∧ (a_.2.1 ≠ -1 → a_.2.2.1 = (pseq (μ 3) (μ 4) mn (σ 0 0) a_.1).2.1 ∧ a_.2.2.2.1 = (pseq (μ 3) (μ 4) mn (σ 0 0) a_.1).2.2) ∧ (∀ j_ : Nat, j_ < a_.1 → (pseq (μ 3) (μ 4) mn (σ 0 0) j_).1 ≠ -1) ∧ (∀ j_ : Nat, j_ < a_.1 → a_.2.2.2.2.1 j_ = (pseq (μ 3) (μ 4) mn (σ 0 0) j_).1) ∧ (∀ j_ : Nat, j_ < a_.1 → a_.2.2.2.2.2.1 j_ = (pseq (μ 3) (μ 4) mn (σ 0 0) j_).2.1) ∧ (∀ j_ : Nat, j_ < a_.1 → a_.2.2.2.2.2.2 j_ = (pseq (μ 3) (μ 4) mn (σ 0 0) j_).2.2) ∧ (a_.1 = 0 → a_.2.1 ≠ -1) ∧ (a_.1 ≤ 140)) (fun a_ => 141 - a_.1) (fun a_ => [(0, .ref (md 0)), (1, .int (iI a_.2.1)), (2, .long (lI a_.2.2.1)), (4, .long (lI a_.2.2.2.1))]) (fun a_ => [((md 0), ob 11 [.int (iI (σ 0 0)), .int (iI (k : Int)), .ref (md 1), .int (iI (nl : Int)), .ref (md 2), .ref (md 3), .int (iI (nt : Int)), .int (iI (σ 0 4)), .ref (md 4), .int (iI (nb : Int)), .long (lI (σ 0 6)), .long (lI (σ 0 7)), .ref (md 5), .ref (md 6), .ref (md 7), .ref (md 8), .int (iI (mn : Int)), .ref (md 9), .ref (md 10), .ref (md 11), .int (iI (a_.1 : Int)), .long (lI (μ 0 0)), .long (lI (μ 0 1)), .long (lI (μ 0 2)), .long (lI (μ 0 3))]), ((md 1), ia E 56 (mI 1 4 σ)), ((md 2), ia E 32 (mI 5 2 σ)), ((md 3), ia E 24 (mI 7 3 σ)), ((md 4), ia E 24 (mI 10 3 σ)), ((md 5), ia E 6 (μ 1)), ((md 6), ia E 16384 (μ 2)), ((md 7), ia E 16384 (μ 3)), ((md 8), ia E 16384 (μ 4)), ((md 9), ia E 2048 a_.2.2.2.2.1), ((md 10), la E 2048 a_.2.2.2.2.2.1), ((md 11), la E 2048 a_.2.2.2.2.2.2)]) ?_ (0, (j : Int), 0, 1, (μ 5), (μ 6), (μ 7)) ?_
      · intro a_ hI_ ih79
        obtain ⟨c1, x0, y0, z0, p1, f1, u1⟩ := a_
        obtain ⟨hxr0, hx, hyz, hn, hp, hf, hu, hc1, hc2⟩ := hI_
        replace hxr0 : -1 ≤ x0 ∧ x0 < (mn : Int) := hxr0
        replace hx : x0 = (pseq (μ 3) (μ 4) mn (σ 0 0) c1).1 := hx
        replace hyz : x0 ≠ -1 → y0 = (pseq (μ 3) (μ 4) mn (σ 0 0) c1).2.1 ∧ z0 = (pseq (μ 3) (μ 4) mn (σ 0 0) c1).2.2 := hyz
        replace hn : ∀ j_ : Nat, j_ < c1 → (pseq (μ 3) (μ 4) mn (σ 0 0) j_).1 ≠ -1 := hn
        replace hp : ∀ j_ : Nat, j_ < c1 → p1 j_ = (pseq (μ 3) (μ 4) mn (σ 0 0) j_).1 := hp
        replace hf : ∀ j_ : Nat, j_ < c1 → f1 j_ = (pseq (μ 3) (μ 4) mn (σ 0 0) j_).2.1 := hf
        replace hu : ∀ j_ : Nat, j_ < c1 → u1 j_ = (pseq (μ 3) (μ 4) mn (σ 0 0) j_).2.2 := hu
        replace hc1 : c1 = 0 → x0 ≠ -1 := hc1
        replace hc2 : c1 ≤ 140 := hc2
        show Wx _ _ _ _ _ _ _ _ _ _ _ _ _ _ _ _ 79 [(0, .ref (md 0)), (1, .int (iI x0)), (2, .long (lI y0)), (4, .long (lI z0))] [] [((md 0), ob 11 [.int (iI (σ 0 0)), .int (iI (k : Int)), .ref (md 1), .int (iI (nl : Int)), .ref (md 2), .ref (md 3), .int (iI (nt : Int)), .int (iI (σ 0 4)), .ref (md 4), .int (iI (nb : Int)), .long (lI (σ 0 6)), .long (lI (σ 0 7)), .ref (md 5), .ref (md 6), .ref (md 7), .ref (md 8), .int (iI (mn : Int)), .ref (md 9), .ref (md 10), .ref (md 11), .int (iI (c1 : Int)), .long (lI (μ 0 0)), .long (lI (μ 0 1)), .long (lI (μ 0 2)), .long (lI (μ 0 3))]), ((md 1), ia E 56 (mI 1 4 σ)), ((md 2), ia E 32 (mI 5 2 σ)), ((md 3), ia E 24 (mI 7 3 σ)), ((md 4), ia E 24 (mI 10 3 σ)), ((md 5), ia E 6 (μ 1)), ((md 6), ia E 16384 (μ 2)), ((md 7), ia E 16384 (μ 3)), ((md 8), ia E 16384 (μ 4)), ((md 9), ia E 2048 p1), ((md 10), la E 2048 f1), ((md 11), la E 2048 u1)]
        refine x_iload_n (pc' := 80) C 1 dX12_findPieces_79 rfl rfl ?_
        refine x_iconst (pc' := 81) C dX12_findPieces_80 rfl ?_
        refine x_icmp_eq (pc' := 84) (tgt := 288) C dX12_findPieces_81 rfl (by decide) (by omega) (by omega) (fun c81 => ?_) (fun c81 => ?_)
        ·
          refine x_ws (ws' := [((md 0), ob 11 [.int (iI (σ 0 0)), .int (iI (k : Int)), .ref (md 1), .int (iI (nl : Int)), .ref (md 2), .ref (md 3), .int (iI (nt : Int)), .int (iI (σ 0 4)), .ref (md 4), .int (iI (nb : Int)), .long (lI (σ 0 6)), .long (lI (σ 0 7)), .ref (md 5), .ref (md 6), .ref (md 7), .ref (md 8), .int (iI (mn : Int)), .ref (md 9), .ref (md 10), .ref (md 11), .int (iI (c1 : Int)), .long (lI ((up2 (up2 (up2 μ 5 p1) 6 f1) 7 u1) 0 0)), .long (lI ((up2 (up2 (up2 μ 5 p1) 6 f1) 7 u1) 0 1)), .long (lI ((up2 (up2 (up2 μ 5 p1) 6 f1) 7 u1) 0 2)), .long (lI ((up2 (up2 (up2 μ 5 p1) 6 f1) 7 u1) 0 3))]), ((md 1), ia E 56 (mI 1 4 σ)), ((md 2), ia E 32 (mI 5 2 σ)), ((md 3), ia E 24 (mI 7 3 σ)), ((md 4), ia E 24 (mI 10 3 σ)), ((md 5), ia E 6 ((up2 (up2 (up2 μ 5 p1) 6 f1) 7 u1) 1)), ((md 6), ia E 16384 ((up2 (up2 (up2 μ 5 p1) 6 f1) 7 u1) 2)), ((md 7), ia E 16384 ((up2 (up2 (up2 μ 5 p1) 6 f1) 7 u1) 3)), ((md 8), ia E 16384 ((up2 (up2 (up2 μ 5 p1) 6 f1) 7 u1) 4)), ((md 9), ia E 2048 ((up2 (up2 (up2 μ 5 p1) 6 f1) 7 u1) 5)), ((md 10), la E 2048 ((up2 (up2 (up2 μ 5 p1) 6 f1) 7 u1) 6)), ((md 11), la E 2048 ((up2 (up2 (up2 μ 5 p1) 6 f1) 7 u1) 7))]) (rfl) ?_
          exact x_vret C hr dX12_findPieces_288 ⟨c1, (up2 (up2 (up2 μ 5 p1) 6 f1) 7 u1), rfl, rfl, (show FPc σ (up2 (up2 (up2 μ 5 p1) 6 f1) 7 u1) mn c1 from ⟨by refine ⟨?_, hc2⟩; rcases Nat.eq_zero_or_pos c1 with e_1 | e_1; exact absurd c81 (hc1 e_1); exact e_1, by rw [← c81]; exact hx.symm, hn, hp, hf, hu⟩), (show (up2 (up2 (up2 μ 5 p1) 6 f1) 7 u1) 2 = μ 2 ∧ (up2 (up2 (up2 μ 5 p1) 6 f1) 7 u1) 3 = μ 3 ∧ (up2 (up2 (up2 μ 5 p1) 6 f1) 7 u1) 4 = μ 4 from ⟨rfl, rfl, rfl⟩)⟩
        ·
          have hlt := pseq_lt h140 (show (pseq (μ 3) (μ 4) mn (σ 0 0) c1).1 ≠ -1 by rw [← hx]; exact c81)
          obtain ⟨hy0, hz0⟩ := hyz c81
          have hbd := pseq_bd1 hA hB h0 hT c1 (by rw [← hx]; exact c81)
          rw [← hy0, ← hz0] at hbd
          have hxr : 0 ≤ x0 ∧ x0 < (mn : Int) := by rcases pseq_plan (A := μ 3) (B := μ 4) (T := σ 0 0) h0 c1 with e_1 | ⟨j_1, hj_1, e_1⟩; exact absurd (hx.trans e_1) c81; omega
          refine x_aload_n (pc' := 85) C 0 dX12_findPieces_84 rfl rfl ?_
          refine x_get (pc' := 88) C dX12_findPieces_85 rfl ff_X12_45_11 0 rfl rfl ?_
          refine x_aload_n (pc' := 89) C 0 dX12_findPieces_88 rfl rfl ?_
          refine x_get (pc' := 92) C dX12_findPieces_89 rfl ff_X12_143_11 0 rfl rfl ?_
          refine x_iload_n (pc' := 93) C 1 dX12_findPieces_92 rfl rfl ?_
          refine x_iast (pc' := 94) (ws' := [((md 0), ob 11 [.int (iI (σ 0 0)), .int (iI (k : Int)), .ref (md 1), .int (iI (nl : Int)), .ref (md 2), .ref (md 3), .int (iI (nt : Int)), .int (iI (σ 0 4)), .ref (md 4), .int (iI (nb : Int)), .long (lI (σ 0 6)), .long (lI (σ 0 7)), .ref (md 5), .ref (md 6), .ref (md 7), .ref (md 8), .int (iI (mn : Int)), .ref (md 9), .ref (md 10), .ref (md 11), .int (iI (c1 : Int)), .long (lI (μ 0 0)), .long (lI (μ 0 1)), .long (lI (μ 0 2)), .long (lI (μ 0 3))]), ((md 1), ia E 56 (mI 1 4 σ)), ((md 2), ia E 32 (mI 5 2 σ)), ((md 3), ia E 24 (mI 7 3 σ)), ((md 4), ia E 24 (mI 10 3 σ)), ((md 5), ia E 6 (μ 1)), ((md 6), ia E 16384 (μ 2)), ((md 7), ia E 16384 (μ 3)), ((md 8), ia E 16384 (μ 4)), ((md 9), ia E 2048 (va_up p1 c1 x0)), ((md 10), la E 2048 f1), ((md 11), la E 2048 u1)]) C c1 dX12_findPieces_93 rfl 9 rfl (by omega) (by omega) (by omega) rfl ?_
          refine x_aload_n (pc' := 95) C 0 dX12_findPieces_94 rfl rfl ?_
          refine x_get (pc' := 98) C dX12_findPieces_95 rfl ff_X12_48_11 0 rfl rfl ?_
          refine x_aload_n (pc' := 99) C 0 dX12_findPieces_98 rfl rfl ?_
          refine x_get (pc' := 102) C dX12_findPieces_99 rfl ff_X12_143_11 0 rfl rfl ?_
          refine x_lload_n (pc' := 103) C 2 dX12_findPieces_102 rfl rfl ?_
          refine x_last (pc' := 104) (ws' := [((md 0), ob 11 [.int (iI (σ 0 0)), .int (iI (k : Int)), .ref (md 1), .int (iI (nl : Int)), .ref (md 2), .ref (md 3), .int (iI (nt : Int)), .int (iI (σ 0 4)), .ref (md 4), .int (iI (nb : Int)), .long (lI (σ 0 6)), .long (lI (σ 0 7)), .ref (md 5), .ref (md 6), .ref (md 7), .ref (md 8), .int (iI (mn : Int)), .ref (md 9), .ref (md 10), .ref (md 11), .int (iI (c1 : Int)), .long (lI (μ 0 0)), .long (lI (μ 0 1)), .long (lI (μ 0 2)), .long (lI (μ 0 3))]), ((md 1), ia E 56 (mI 1 4 σ)), ((md 2), ia E 32 (mI 5 2 σ)), ((md 3), ia E 24 (mI 7 3 σ)), ((md 4), ia E 24 (mI 10 3 σ)), ((md 5), ia E 6 (μ 1)), ((md 6), ia E 16384 (μ 2)), ((md 7), ia E 16384 (μ 3)), ((md 8), ia E 16384 (μ 4)), ((md 9), ia E 2048 (va_up p1 c1 x0)), ((md 10), la E 2048 (va_up f1 c1 y0)), ((md 11), la E 2048 u1)]) C c1 dX12_findPieces_103 rfl 10 rfl (by omega) (by omega) (by omega) rfl ?_
          refine x_aload_n (pc' := 105) C 0 dX12_findPieces_104 rfl rfl ?_
          refine x_get (pc' := 108) C dX12_findPieces_105 rfl ff_X12_52_11 0 rfl rfl ?_
          refine x_aload_n (pc' := 109) C 0 dX12_findPieces_108 rfl rfl ?_
          refine x_get (pc' := 112) C dX12_findPieces_109 rfl ff_X12_143_11 0 rfl rfl ?_
          refine x_lload (pc' := 114) C 3 dX12_findPieces_112 rfl rfl ?_
          refine x_last (pc' := 115) (ws' := [((md 0), ob 11 [.int (iI (σ 0 0)), .int (iI (k : Int)), .ref (md 1), .int (iI (nl : Int)), .ref (md 2), .ref (md 3), .int (iI (nt : Int)), .int (iI (σ 0 4)), .ref (md 4), .int (iI (nb : Int)), .long (lI (σ 0 6)), .long (lI (σ 0 7)), .ref (md 5), .ref (md 6), .ref (md 7), .ref (md 8), .int (iI (mn : Int)), .ref (md 9), .ref (md 10), .ref (md 11), .int (iI (c1 : Int)), .long (lI (μ 0 0)), .long (lI (μ 0 1)), .long (lI (μ 0 2)), .long (lI (μ 0 3))]), ((md 1), ia E 56 (mI 1 4 σ)), ((md 2), ia E 32 (mI 5 2 σ)), ((md 3), ia E 24 (mI 7 3 σ)), ((md 4), ia E 24 (mI 10 3 σ)), ((md 5), ia E 6 (μ 1)), ((md 6), ia E 16384 (μ 2)), ((md 7), ia E 16384 (μ 3)), ((md 8), ia E 16384 (μ 4)), ((md 9), ia E 2048 (va_up p1 c1 x0)), ((md 10), la E 2048 (va_up f1 c1 y0)), ((md 11), la E 2048 (va_up u1 c1 z0))]) C c1 dX12_findPieces_114 rfl 11 rfl (by omega) (by omega) (by omega) rfl ?_
          refine x_aload_n (pc' := 116) C 0 dX12_findPieces_115 rfl rfl ?_
          refine x_dup (pc' := 117) C dX12_findPieces_116 rfl rfl ?_
          refine x_get (pc' := 120) C dX12_findPieces_117 rfl ff_X12_143_11 0 rfl rfl ?_
          refine x_iconst (pc' := 121) C dX12_findPieces_120 rfl ?_
          refine x_iadd (pc' := 122) C dX12_findPieces_121 rfl ?_
          refine x_top (b := .int (iI ((c1 + 1 : Nat) : Int))) (rfl) ?_
          refine x_put (pc' := 125) (ws' := [((md 0), ob 11 [.int (iI (σ 0 0)), .int (iI (k : Int)), .ref (md 1), .int (iI (nl : Int)), .ref (md 2), .ref (md 3), .int (iI (nt : Int)), .int (iI (σ 0 4)), .ref (md 4), .int (iI (nb : Int)), .long (lI (σ 0 6)), .long (lI (σ 0 7)), .ref (md 5), .ref (md 6), .ref (md 7), .ref (md 8), .int (iI (mn : Int)), .ref (md 9), .ref (md 10), .ref (md 11), .int (iI ((c1 + 1 : Nat) : Int)), .long (lI (μ 0 0)), .long (lI (μ 0 1)), .long (lI (μ 0 2)), .long (lI (μ 0 3))]), ((md 1), ia E 56 (mI 1 4 σ)), ((md 2), ia E 32 (mI 5 2 σ)), ((md 3), ia E 24 (mI 7 3 σ)), ((md 4), ia E 24 (mI 10 3 σ)), ((md 5), ia E 6 (μ 1)), ((md 6), ia E 16384 (μ 2)), ((md 7), ia E 16384 (μ 3)), ((md 8), ia E 16384 (μ 4)), ((md 9), ia E 2048 (va_up p1 c1 x0)), ((md 10), la E 2048 (va_up f1 c1 y0)), ((md 11), la E 2048 (va_up u1 c1 z0))]) C dX12_findPieces_122 rfl pf_X12_143_11 0 rfl rfl rfl (Nat.le_of_ble_eq_true rfl) rfl ?_
          refine x_iconst (pc' := 126) C dX12_findPieces_125 rfl ?_
          refine x_istore (pc' := 128) (lv' := [(6, .int (iI (-1))), (0, .ref (md 0)), (1, .int (iI x0)), (2, .long (lI y0)), (4, .long (lI z0))]) C dX12_findPieces_126 rfl (by decide) rfl ?_
          refine x_iconst (pc' := 129) C dX12_findPieces_128 rfl ?_
          refine x_istore (pc' := 131) (lv' := [(7, .int (iI 0)), (6, .int (iI (-1))), (0, .ref (md 0)), (1, .int (iI x0)), (2, .long (lI y0)), (4, .long (lI z0))]) C dX12_findPieces_129 rfl (by decide) rfl ?_
          refine x_lv [2, 3, 4, 5, 1, 0] rfl ?_
          refine x_lvI (lv' := [(0, .ref (md 0)), (1, .int (iI (x0.toNat : Int))), (2, .long (lI y0)), (4, .long (lI z0)), (6, .int (iI (-1))), (7, .int (iI 0))]) 1 rfl (by omega) rfl ?_
          refine x_loop (α := (Nat) × (Int) × (Int) × (Int)) (fun a_ => (a_.1 ≤ mn) ∧ (RX (fun k_1 => μ 3 k_1 - μ 3 x0.toNat) (fun k_1 => μ 4 x0.toNat - μ 4 k_1) (σ 0 0) a_.1 a_.2.1 a_.2.2.1 a_.2.2.2) ∧ (-3200 ≤ a_.2.2.1 ∧ a_.2.2.1 ≤ 3200) ∧ (1 ≤ a_.2.2.2 ∧ a_.2.2.2 ≤ 3200) ∧ (-1 ≤ a_.2.1 ∧ a_.2.1 < (mn : Int))) (fun a_ => mn - a_.1) (fun a_ => [(0, .ref (md 0)), (1, .int (iI (x0.toNat : Int))), (2, .long (lI a_.2.2.1)), (4, .long (lI a_.2.2.2)), (6, .int (iI a_.2.1)), (7, .int (iI (a_.1 : Int)))]) (fun a_ => [((md 0), ob 11 [.int (iI (σ 0 0)), .int (iI (k : Int)), .ref (md 1), .int (iI (nl : Int)), .ref (md 2), .ref (md 3), .int (iI (nt : Int)), .int (iI (σ 0 4)), .ref (md 4), .int (iI (nb : Int)), .long (lI (σ 0 6)), .long (lI (σ 0 7)), .ref (md 5), .ref (md 6), .ref (md 7), .ref (md 8), .int (iI (mn : Int)), .ref (md 9), .ref (md 10), .ref (md 11), .int (iI ((c1 + 1 : Nat) : Int)), .long (lI (μ 0 0)), .long (lI (μ 0 1)), .long (lI (μ 0 2)), .long (lI (μ 0 3))]), ((md 1), ia E 56 (mI 1 4 σ)), ((md 2), ia E 32 (mI 5 2 σ)), ((md 3), ia E 24 (mI 7 3 σ)), ((md 4), ia E 24 (mI 10 3 σ)), ((md 5), ia E 6 (μ 1)), ((md 6), ia E 16384 (μ 2)), ((md 7), ia E 16384 (μ 3)), ((md 8), ia E 16384 (μ 4)), ((md 9), ia E 2048 (va_up p1 c1 x0)), ((md 10), la E 2048 (va_up f1 c1 y0)), ((md 11), la E 2048 (va_up u1 c1 z0))]) ?_ (0, (-1), y0, z0) ?_
          · intro a_ hI_ ih131
            obtain ⟨i, x, y, z⟩ := a_
            obtain ⟨hi, hR, hyb, hzb, hxb⟩ := hI_
            replace hi : i ≤ mn := hi
            replace hR : RX (fun k_1 => μ 3 k_1 - μ 3 x0.toNat) (fun k_1 => μ 4 x0.toNat - μ 4 k_1) (σ 0 0) i x y z := hR
            replace hyb : -3200 ≤ y ∧ y ≤ 3200 := hyb
            replace hzb : 1 ≤ z ∧ z ≤ 3200 := hzb
            replace hxb : -1 ≤ x ∧ x < (mn : Int) := hxb
            show Wx _ _ _ _ _ _ _ _ _ _ _ _ _ _ _ _ 131 [(0, .ref (md 0)), (1, .int (iI (x0.toNat : Int))), (2, .long (lI y)), (4, .long (lI z)), (6, .int (iI x)), (7, .int (iI (i : Int)))] [] [((md 0), ob 11 [.int (iI (σ 0 0)), .int (iI (k : Int)), .ref (md 1), .int (iI (nl : Int)), .ref (md 2), .ref (md 3), .int (iI (nt : Int)), .int (iI (σ 0 4)), .ref (md 4), .int (iI (nb : Int)), .long (lI (σ 0 6)), .long (lI (σ 0 7)), .ref (md 5), .ref (md 6), .ref (md 7), .ref (md 8), .int (iI (mn : Int)), .ref (md 9), .ref (md 10), .ref (md 11), .int (iI ((c1 + 1 : Nat) : Int)), .long (lI (μ 0 0)), .long (lI (μ 0 1)), .long (lI (μ 0 2)), .long (lI (μ 0 3))]), ((md 1), ia E 56 (mI 1 4 σ)), ((md 2), ia E 32 (mI 5 2 σ)), ((md 3), ia E 24 (mI 7 3 σ)), ((md 4), ia E 24 (mI 10 3 σ)), ((md 5), ia E 6 (μ 1)), ((md 6), ia E 16384 (μ 2)), ((md 7), ia E 16384 (μ 3)), ((md 8), ia E 16384 (μ 4)), ((md 9), ia E 2048 (va_up p1 c1 x0)), ((md 10), la E 2048 (va_up f1 c1 y0)), ((md 11), la E 2048 (va_up u1 c1 z0))]
            refine x_iload (pc' := 133) C 5 dX12_findPieces_131 rfl rfl ?_
            refine x_aload_n (pc' := 134) C 0 dX12_findPieces_133 rfl rfl ?_
            refine x_get (pc' := 137) C dX12_findPieces_134 rfl ff_X12_113_11 0 rfl rfl ?_
            refine x_icmp_ge (pc' := 140) (tgt := 282) C dX12_findPieces_137 rfl (by decide) (by omega) (by omega) (fun c137 => ?_) (fun c137 => ?_)
            ·
              refine x_iload (pc' := 284) C 4 dX12_findPieces_282 rfl rfl ?_
              refine x_istore_n (pc' := 285) (lv' := [(1, .int (iI x)), (0, .ref (md 0)), (2, .long (lI y)), (4, .long (lI z)), (6, .int (iI x)), (7, .int (iI (i : Int)))]) C dX12_findPieces_284 rfl (by decide) rfl ?_
              refine x_goto (tgt := 79) C dX12_findPieces_285 (by decide) ?_
              refine x_lv [1, 0, 2, 3] rfl ?_
              have hnx_ := RX_end (show (pseq (μ 3) (μ 4) mn (σ 0 0) c1).1 = ((x0.toNat : Nat) : Int) by omega) (show i = mn by omega) hR
              exact ih79 ((c1 + 1), x, y, z, (va_up p1 c1 x0), (va_up f1 c1 y0), (va_up u1 c1 z0)) ⟨(show -1 ≤ x ∧ x < (mn : Int) from by omega), (show x = (pseq (μ 3) (μ 4) mn (σ 0 0) (c1 + 1)).1 from hnx_.1), (show x ≠ -1 → y = (pseq (μ 3) (μ 4) mn (σ 0 0) (c1 + 1)).2.1 ∧ z = (pseq (μ 3) (μ 4) mn (σ 0 0) (c1 + 1)).2.2 from hnx_.2), (show ∀ j_ : Nat, j_ < (c1 + 1) → (pseq (μ 3) (μ 4) mn (σ 0 0) j_).1 ≠ -1 from ext_ne hn (by rw [← hx]; exact c81)), (show ∀ j_ : Nat, j_ < (c1 + 1) → (va_up p1 c1 x0) j_ = (pseq (μ 3) (μ 4) mn (σ 0 0) j_).1 from fp_arr hp hx), (show ∀ j_ : Nat, j_ < (c1 + 1) → (va_up f1 c1 y0) j_ = (pseq (μ 3) (μ 4) mn (σ 0 0) j_).2.1 from fp_arr (F := fun q_ => (pseq (μ 3) (μ 4) mn (σ 0 0) q_).2.1) hf hy0), (show ∀ j_ : Nat, j_ < (c1 + 1) → (va_up u1 c1 z0) j_ = (pseq (μ 3) (μ 4) mn (σ 0 0) j_).2.2 from fp_arr (F := fun q_ => (pseq (μ 3) (μ 4) mn (σ 0 0) q_).2.2) hu hz0), (show (c1 + 1) = 0 → x ≠ -1 from fun hh => absurd hh (by omega)), (show (c1 + 1) ≤ 140 from by omega)⟩ (show 141 - (c1 + 1) < 141 - c1 from by omega)
            ·
              have b1 := hA i (by omega)
              have b2 := hA x0.toNat (by omega)
              have b3 := hB i (by omega)
              have b4 := hB x0.toNat (by omega)
              have m1 := mulb (x := μ 3 i - μ 3 x0.toNat) (y := z) (a := 3200) (b := 3200) (by omega) (by omega)
              refine x_aload_n (pc' := 141) C 0 dX12_findPieces_140 rfl rfl ?_
              refine x_get (pc' := 144) C dX12_findPieces_141 rfl ff_X12_42_11 0 rfl rfl ?_
              refine x_iload (pc' := 146) C 5 dX12_findPieces_144 rfl rfl ?_
              refine x_iald (pc' := 147) C i dX12_findPieces_146 rfl 8 rfl (by omega) (by omega) (by omega) ?_
              refine x_aload_n (pc' := 148) C 0 dX12_findPieces_147 rfl rfl ?_
              refine x_get (pc' := 151) C dX12_findPieces_148 rfl ff_X12_42_11 0 rfl rfl ?_
              refine x_iload_n (pc' := 152) C 1 dX12_findPieces_151 rfl rfl ?_
              refine x_iald (pc' := 153) C x0.toNat dX12_findPieces_152 rfl 8 rfl (by omega) (by omega) (by omega) ?_
              refine x_icmp_ge (pc' := 156) (tgt := 276) C dX12_findPieces_153 rfl (by decide) (by omega) (by omega) (fun c153 => ?_) (fun c153 => ?_)
              ·
                refine x_iinc (pc' := 279) (lv' := [(7, .int (iI ((i : Int) + 1))), (0, .ref (md 0)), (1, .int (iI (x0.toNat : Int))), (2, .long (lI y)), (4, .long (lI z)), (6, .int (iI x))]) C 5 dX12_findPieces_276 rfl (by decide) rfl rfl ?_
                refine x_lvI (lv' := [(7, .int (iI ((i + 1 : Nat) : Int))), (0, .ref (md 0)), (1, .int (iI (x0.toNat : Int))), (2, .long (lI y)), (4, .long (lI z)), (6, .int (iI x))]) 0 rfl (by omega) rfl ?_
                refine x_goto (tgt := 131) C dX12_findPieces_279 (by decide) ?_
                refine x_lv [1, 2, 3, 4, 5, 0] rfl ?_
                exact ih131 ((i + 1), x, y, z) ⟨(show (i + 1) ≤ mn from by omega), (show RX (fun k_1 => μ 3 k_1 - μ 3 x0.toNat) (fun k_1 => μ 4 x0.toNat - μ 4 k_1) (σ 0 0) (i + 1) x y z from by first | exact RX_rej hR (fun hh => by have h1_ : 0 < μ 4 x0.toNat - μ 4 i := hh.1; omega) | exact RX_acc hR (show 0 < μ 4 x0.toNat - μ 4 i by omega) (show μ 3 i - μ 3 x0.toNat < σ 0 0 * (μ 4 x0.toNat - μ 4 i) by omega) (show (x = -1 ∨ (μ 3 i - μ 3 x0.toNat) * z < y * (μ 4 x0.toNat - μ 4 i) ∨ ((μ 3 i - μ 3 x0.toNat) * z = y * (μ 4 x0.toNat - μ 4 i) ∧ z < μ 4 x0.toNat - μ 4 i)) by omega) | exact RX_rej hR (fun hh => by have h1_ : 0 < μ 4 x0.toNat - μ 4 i ∧ μ 3 i - μ 3 x0.toNat < σ 0 0 * (μ 4 x0.toNat - μ 4 i) ∧ (x = -1 ∨ (μ 3 i - μ 3 x0.toNat) * z < y * (μ 4 x0.toNat - μ 4 i) ∨ ((μ 3 i - μ 3 x0.toNat) * z = y * (μ 4 x0.toNat - μ 4 i) ∧ z < μ 4 x0.toNat - μ 4 i)) := hh; omega)), (show -3200 ≤ y ∧ y ≤ 3200 from by omega), (show 1 ≤ z ∧ z ≤ 3200 from by omega), (show -1 ≤ x ∧ x < (mn : Int) from by omega)⟩ (show mn - (i + 1) < mn - i from by omega)
              ·
                refine x_aload_n (pc' := 157) C 0 dX12_findPieces_156 rfl rfl ?_
                refine x_get (pc' := 160) C dX12_findPieces_157 rfl ff_X12_39_11 0 rfl rfl ?_
                refine x_iload (pc' := 162) C 5 dX12_findPieces_160 rfl rfl ?_
                refine x_iald (pc' := 163) C i dX12_findPieces_162 rfl 7 rfl (by omega) (by omega) (by omega) ?_
                refine x_aload_n (pc' := 164) C 0 dX12_findPieces_163 rfl rfl ?_
                refine x_get (pc' := 167) C dX12_findPieces_164 rfl ff_X12_39_11 0 rfl rfl ?_
                refine x_iload_n (pc' := 168) C 1 dX12_findPieces_167 rfl rfl ?_
                refine x_iald (pc' := 169) C x0.toNat dX12_findPieces_168 rfl 7 rfl (by omega) (by omega) (by omega) ?_
                refine x_isub (pc' := 170) C dX12_findPieces_169 rfl ?_
                refine x_i2l (pc' := 171) C dX12_findPieces_170 rfl (by omega) ?_
                refine x_lstore (pc' := 173) (lv' := [(8, .long (lI (((μ 3) i) - ((μ 3) x0.toNat)))), (0, .ref (md 0)), (1, .int (iI (x0.toNat : Int))), (2, .long (lI y)), (4, .long (lI z)), (6, .int (iI x)), (7, .int (iI (i : Int)))]) C dX12_findPieces_171 rfl (by decide) rfl ?_
                refine x_aload_n (pc' := 174) C 1 dX12_findPieces_173 rfl rfl ?_
                refine x_get (pc' := 177) C dX12_findPieces_174 rfl ff_X12_42_11 0 rfl rfl ?_
                refine x_iload_n (pc' := 178) C 2 dX12_findPieces_177 rfl rfl ?_
                refine x_iald (pc' := 179) C x0.toNat dX12_findPieces_178 rfl 8 rfl (by omega) (by omega) (by omega) ?_
                refine x_aload_n (pc' := 180) C 1 dX12_findPieces_179 rfl rfl ?_
                refine x_get (pc' := 183) C dX12_findPieces_180 rfl ff_X12_42_11 0 rfl rfl ?_
                refine x_iload (pc' := 185) C 6 dX12_findPieces_183 rfl rfl ?_
                refine x_iald (pc' := 186) C i dX12_findPieces_185 rfl 8 rfl (by omega) (by omega) (by omega) ?_
                refine x_isub (pc' := 187) C dX12_findPieces_186 rfl ?_
                refine x_i2l (pc' := 188) C dX12_findPieces_187 rfl (by omega) ?_
                refine x_lstore (pc' := 190) (lv' := [(10, .long (lI (((μ 4) x0.toNat) - ((μ 4) i)))), (8, .long (lI (((μ 3) i) - ((μ 3) x0.toNat)))), (0, .ref (md 0)), (1, .int (iI (x0.toNat : Int))), (2, .long (lI y)), (4, .long (lI z)), (6, .int (iI x)), (7, .int (iI (i : Int)))]) C dX12_findPieces_188 rfl (by decide) rfl ?_
                have m2 := mulb (x := y) (y := μ 4 x0.toNat - μ 4 i) (a := 3200) (b := 3200) (by omega) (by omega)
                have m3 := mulb (x := σ 0 0) (y := μ 4 x0.toNat - μ 4 i) (a := 100) (b := 3200) (by omega) (by omega)
                refine x_iload (pc' := 192) C 6 dX12_findPieces_190 rfl rfl ?_
                refine x_iconst (pc' := 193) C dX12_findPieces_192 rfl ?_
                refine x_icmp_eq (pc' := 196) (tgt := 239) C dX12_findPieces_193 rfl (by decide) (by omega) (by omega) (fun c193 => ?_) (fun c193 => ?_)
                ·
                  refine x_iconst (pc' := 240) C dX12_findPieces_239 rfl ?_
                  refine x_goto (tgt := 244) C dX12_findPieces_240 (by decide) ?_
                  refine x_istore (pc' := 246) (lv' := [(12, .int (iI 1)), (10, .long (lI (((μ 4) x0.toNat) - ((μ 4) i)))), (8, .long (lI (((μ 3) i) - ((μ 3) x0.toNat)))), (0, .ref (md 0)), (1, .int (iI (x0.toNat : Int))), (2, .long (lI y)), (4, .long (lI z)), (6, .int (iI x)), (7, .int (iI (i : Int)))]) C dX12_findPieces_244 rfl (by decide) rfl ?_
                  refine x_iload (pc' := 248) C 0 dX12_findPieces_246 rfl rfl ?_
                  refine x_if_eq (pc' := 251) (tgt := 276) C dX12_findPieces_248 rfl (by decide) (by omega) (fun c248 => ?_) (fun c248 => ?_)
                  ·
                    refine x_iinc (pc' := 279) (lv' := [(7, .int (iI ((i : Int) + 1))), (12, .int (iI 1)), (10, .long (lI (((μ 4) x0.toNat) - ((μ 4) i)))), (8, .long (lI (((μ 3) i) - ((μ 3) x0.toNat)))), (0, .ref (md 0)), (1, .int (iI (x0.toNat : Int))), (2, .long (lI y)), (4, .long (lI z)), (6, .int (iI x))]) C 8 dX12_findPieces_276 rfl (by decide) rfl rfl ?_
                    refine x_lvI (lv' := [(7, .int (iI ((i + 1 : Nat) : Int))), (12, .int (iI 1)), (10, .long (lI (((μ 4) x0.toNat) - ((μ 4) i)))), (8, .long (lI (((μ 3) i) - ((μ 3) x0.toNat)))), (0, .ref (md 0)), (1, .int (iI (x0.toNat : Int))), (2, .long (lI y)), (4, .long (lI z)), (6, .int (iI x))]) 0 rfl (by omega) rfl ?_
                    refine x_goto (tgt := 131) C dX12_findPieces_279 (by decide) ?_
                    refine x_lv [4, 5, 6, 7, 8, 0] rfl ?_
                    exact ih131 ((i + 1), x, y, z) ⟨(show (i + 1) ≤ mn from by omega), (show RX (fun k_1 => μ 3 k_1 - μ 3 x0.toNat) (fun k_1 => μ 4 x0.toNat - μ 4 k_1) (σ 0 0) (i + 1) x y z from by first | exact RX_rej hR (fun hh => by have h1_ : 0 < μ 4 x0.toNat - μ 4 i := hh.1; omega) | exact RX_acc hR (show 0 < μ 4 x0.toNat - μ 4 i by omega) (show μ 3 i - μ 3 x0.toNat < σ 0 0 * (μ 4 x0.toNat - μ 4 i) by omega) (show (x = -1 ∨ (μ 3 i - μ 3 x0.toNat) * z < y * (μ 4 x0.toNat - μ 4 i) ∨ ((μ 3 i - μ 3 x0.toNat) * z = y * (μ 4 x0.toNat - μ 4 i) ∧ z < μ 4 x0.toNat - μ 4 i)) by omega) | exact RX_rej hR (fun hh => by have h1_ : 0 < μ 4 x0.toNat - μ 4 i ∧ μ 3 i - μ 3 x0.toNat < σ 0 0 * (μ 4 x0.toNat - μ 4 i) ∧ (x = -1 ∨ (μ 3 i - μ 3 x0.toNat) * z < y * (μ 4 x0.toNat - μ 4 i) ∨ ((μ 3 i - μ 3 x0.toNat) * z = y * (μ 4 x0.toNat - μ 4 i) ∧ z < μ 4 x0.toNat - μ 4 i)) := hh; omega)), (show -3200 ≤ y ∧ y ≤ 3200 from by omega), (show 1 ≤ z ∧ z ≤ 3200 from by omega), (show -1 ≤ x ∧ x < (mn : Int) from by omega)⟩ (show mn - (i + 1) < mn - i from by omega)
                  ·
                    refine x_lload (pc' := 253) C 2 dX12_findPieces_251 rfl rfl ?_
                    refine x_aload_n (pc' := 254) C 3 dX12_findPieces_253 rfl rfl ?_
                    refine x_get (pc' := 257) C dX12_findPieces_254 rfl ff_X12_7_11 0 rfl rfl ?_
                    refine x_i2l (pc' := 258) C dX12_findPieces_257 rfl (by omega) ?_
                    refine x_lload (pc' := 260) C 1 dX12_findPieces_258 rfl rfl ?_
                    refine x_lmul (pc' := 261) C dX12_findPieces_260 rfl ?_
                    refine x_lcmp_ge (pc' := 265) (tgt := 276) C dX12_findPieces_261 (pc1 := 262) rfl dX12_findPieces_262 rfl (by decide) (by omega) (by omega) (fun c261 => ?_) (fun c261 => ?_)
                    ·
                      refine x_iinc (pc' := 279) (lv' := [(7, .int (iI ((i : Int) + 1))), (12, .int (iI 1)), (10, .long (lI (((μ 4) x0.toNat) - ((μ 4) i)))), (8, .long (lI (((μ 3) i) - ((μ 3) x0.toNat)))), (0, .ref (md 0)), (1, .int (iI (x0.toNat : Int))), (2, .long (lI y)), (4, .long (lI z)), (6, .int (iI x))]) C 8 dX12_findPieces_276 rfl (by decide) rfl rfl ?_
                      refine x_lvI (lv' := [(7, .int (iI ((i + 1 : Nat) : Int))), (12, .int (iI 1)), (10, .long (lI (((μ 4) x0.toNat) - ((μ 4) i)))), (8, .long (lI (((μ 3) i) - ((μ 3) x0.toNat)))), (0, .ref (md 0)), (1, .int (iI (x0.toNat : Int))), (2, .long (lI y)), (4, .long (lI z)), (6, .int (iI x))]) 0 rfl (by omega) rfl ?_
                      refine x_goto (tgt := 131) C dX12_findPieces_279 (by decide) ?_
                      refine x_lv [4, 5, 6, 7, 8, 0] rfl ?_
                      exact ih131 ((i + 1), x, y, z) ⟨(show (i + 1) ≤ mn from by omega), (show RX (fun k_1 => μ 3 k_1 - μ 3 x0.toNat) (fun k_1 => μ 4 x0.toNat - μ 4 k_1) (σ 0 0) (i + 1) x y z from by first | exact RX_rej hR (fun hh => by have h1_ : 0 < μ 4 x0.toNat - μ 4 i := hh.1; omega) | exact RX_acc hR (show 0 < μ 4 x0.toNat - μ 4 i by omega) (show μ 3 i - μ 3 x0.toNat < σ 0 0 * (μ 4 x0.toNat - μ 4 i) by omega) (show (x = -1 ∨ (μ 3 i - μ 3 x0.toNat) * z < y * (μ 4 x0.toNat - μ 4 i) ∨ ((μ 3 i - μ 3 x0.toNat) * z = y * (μ 4 x0.toNat - μ 4 i) ∧ z < μ 4 x0.toNat - μ 4 i)) by omega) | exact RX_rej hR (fun hh => by have h1_ : 0 < μ 4 x0.toNat - μ 4 i ∧ μ 3 i - μ 3 x0.toNat < σ 0 0 * (μ 4 x0.toNat - μ 4 i) ∧ (x = -1 ∨ (μ 3 i - μ 3 x0.toNat) * z < y * (μ 4 x0.toNat - μ 4 i) ∨ ((μ 3 i - μ 3 x0.toNat) * z = y * (μ 4 x0.toNat - μ 4 i) ∧ z < μ 4 x0.toNat - μ 4 i)) := hh; omega)), (show -3200 ≤ y ∧ y ≤ 3200 from by omega), (show 1 ≤ z ∧ z ≤ 3200 from by omega), (show -1 ≤ x ∧ x < (mn : Int) from by omega)⟩ (show mn - (i + 1) < mn - i from by omega)
                    ·
                      refine x_iload (pc' := 267) C 8 dX12_findPieces_265 rfl rfl ?_
                      refine x_istore (pc' := 269) (lv' := [(6, .int (iI (i : Int))), (12, .int (iI 1)), (10, .long (lI (((μ 4) x0.toNat) - ((μ 4) i)))), (8, .long (lI (((μ 3) i) - ((μ 3) x0.toNat)))), (0, .ref (md 0)), (1, .int (iI (x0.toNat : Int))), (2, .long (lI y)), (4, .long (lI z)), (7, .int (iI (i : Int)))]) C dX12_findPieces_267 rfl (by decide) rfl ?_
                      refine x_lload (pc' := 271) C 3 dX12_findPieces_269 rfl rfl ?_
                      refine x_lstore_n (pc' := 272) (lv' := [(2, .long (lI (((μ 3) i) - ((μ 3) x0.toNat)))), (6, .int (iI (i : Int))), (12, .int (iI 1)), (10, .long (lI (((μ 4) x0.toNat) - ((μ 4) i)))), (8, .long (lI (((μ 3) i) - ((μ 3) x0.toNat)))), (0, .ref (md 0)), (1, .int (iI (x0.toNat : Int))), (4, .long (lI z)), (7, .int (iI (i : Int)))]) C dX12_findPieces_271 rfl (by decide) rfl ?_
                      refine x_lload (pc' := 274) C 3 dX12_findPieces_272 rfl rfl ?_
                      refine x_lstore (pc' := 276) (lv' := [(4, .long (lI (((μ 4) x0.toNat) - ((μ 4) i)))), (2, .long (lI (((μ 3) i) - ((μ 3) x0.toNat)))), (6, .int (iI (i : Int))), (12, .int (iI 1)), (10, .long (lI (((μ 4) x0.toNat) - ((μ 4) i)))), (8, .long (lI (((μ 3) i) - ((μ 3) x0.toNat)))), (0, .ref (md 0)), (1, .int (iI (x0.toNat : Int))), (7, .int (iI (i : Int)))]) C dX12_findPieces_274 rfl (by decide) rfl ?_
                      refine x_iinc (pc' := 279) (lv' := [(7, .int (iI ((i : Int) + 1))), (4, .long (lI (((μ 4) x0.toNat) - ((μ 4) i)))), (2, .long (lI (((μ 3) i) - ((μ 3) x0.toNat)))), (6, .int (iI (i : Int))), (12, .int (iI 1)), (10, .long (lI (((μ 4) x0.toNat) - ((μ 4) i)))), (8, .long (lI (((μ 3) i) - ((μ 3) x0.toNat)))), (0, .ref (md 0)), (1, .int (iI (x0.toNat : Int)))]) C 8 dX12_findPieces_276 rfl (by decide) rfl rfl ?_
                      refine x_lvI (lv' := [(7, .int (iI ((i + 1 : Nat) : Int))), (4, .long (lI (((μ 4) x0.toNat) - ((μ 4) i)))), (2, .long (lI (((μ 3) i) - ((μ 3) x0.toNat)))), (6, .int (iI (i : Int))), (12, .int (iI 1)), (10, .long (lI (((μ 4) x0.toNat) - ((μ 4) i)))), (8, .long (lI (((μ 3) i) - ((μ 3) x0.toNat)))), (0, .ref (md 0)), (1, .int (iI (x0.toNat : Int)))]) 0 rfl (by omega) rfl ?_
                      refine x_goto (tgt := 131) C dX12_findPieces_279 (by decide) ?_
                      refine x_lv [7, 8, 2, 1, 3, 0] rfl ?_
                      exact ih131 ((i + 1), (i : Int), (((μ 3) i) - ((μ 3) x0.toNat)), (((μ 4) x0.toNat) - ((μ 4) i))) ⟨(show (i + 1) ≤ mn from by omega), (show RX (fun k_1 => μ 3 k_1 - μ 3 x0.toNat) (fun k_1 => μ 4 x0.toNat - μ 4 k_1) (σ 0 0) (i + 1) (i : Int) (((μ 3) i) - ((μ 3) x0.toNat)) (((μ 4) x0.toNat) - ((μ 4) i)) from by first | exact RX_rej hR (fun hh => by have h1_ : 0 < μ 4 x0.toNat - μ 4 i := hh.1; omega) | exact RX_acc hR (show 0 < μ 4 x0.toNat - μ 4 i by omega) (show μ 3 i - μ 3 x0.toNat < σ 0 0 * (μ 4 x0.toNat - μ 4 i) by omega) (show (x = -1 ∨ (μ 3 i - μ 3 x0.toNat) * z < y * (μ 4 x0.toNat - μ 4 i) ∨ ((μ 3 i - μ 3 x0.toNat) * z = y * (μ 4 x0.toNat - μ 4 i) ∧ z < μ 4 x0.toNat - μ 4 i)) by omega) | exact RX_rej hR (fun hh => by have h1_ : 0 < μ 4 x0.toNat - μ 4 i ∧ μ 3 i - μ 3 x0.toNat < σ 0 0 * (μ 4 x0.toNat - μ 4 i) ∧ (x = -1 ∨ (μ 3 i - μ 3 x0.toNat) * z < y * (μ 4 x0.toNat - μ 4 i) ∨ ((μ 3 i - μ 3 x0.toNat) * z = y * (μ 4 x0.toNat - μ 4 i) ∧ z < μ 4 x0.toNat - μ 4 i)) := hh; omega)), (show -3200 ≤ (((μ 3) i) - ((μ 3) x0.toNat)) ∧ (((μ 3) i) - ((μ 3) x0.toNat)) ≤ 3200 from by omega), (show 1 ≤ (((μ 4) x0.toNat) - ((μ 4) i)) ∧ (((μ 4) x0.toNat) - ((μ 4) i)) ≤ 3200 from by omega), (show -1 ≤ (i : Int) ∧ (i : Int) < (mn : Int) from by omega)⟩ (show mn - (i + 1) < mn - i from by omega)
                ·
                  have hat := RX_at (A := μ 3) (B := μ 4) hR c193
                  have b5 := hB x.toNat (by omega)
                  refine x_lload (pc' := 198) C 1 dX12_findPieces_196 rfl rfl ?_
                  refine x_lload (pc' := 200) C 5 dX12_findPieces_198 rfl rfl ?_
                  refine x_lmul (pc' := 201) C dX12_findPieces_200 rfl ?_
                  refine x_lload_n (pc' := 202) C 4 dX12_findPieces_201 rfl rfl ?_
                  refine x_lload (pc' := 204) C 0 dX12_findPieces_202 rfl rfl ?_
                  refine x_lmul (pc' := 205) C dX12_findPieces_204 rfl ?_
                  refine x_lcmp_lt (pc' := 209) (tgt := 239) C dX12_findPieces_205 (pc1 := 206) rfl dX12_findPieces_206 rfl (by decide) (by omega) (by omega) (fun c205 => ?_) (fun c205 => ?_)
                  ·
                    refine x_iconst (pc' := 240) C dX12_findPieces_239 rfl ?_
                    refine x_goto (tgt := 244) C dX12_findPieces_240 (by decide) ?_
                    refine x_istore (pc' := 246) (lv' := [(12, .int (iI 1)), (10, .long (lI (((μ 4) x0.toNat) - ((μ 4) i)))), (8, .long (lI (((μ 3) i) - ((μ 3) x0.toNat)))), (0, .ref (md 0)), (1, .int (iI (x0.toNat : Int))), (2, .long (lI y)), (4, .long (lI z)), (6, .int (iI x)), (7, .int (iI (i : Int)))]) C dX12_findPieces_244 rfl (by decide) rfl ?_
                    refine x_iload (pc' := 248) C 0 dX12_findPieces_246 rfl rfl ?_
                    refine x_if_eq (pc' := 251) (tgt := 276) C dX12_findPieces_248 rfl (by decide) (by omega) (fun c248 => ?_) (fun c248 => ?_)
                    ·
                      refine x_iinc (pc' := 279) (lv' := [(7, .int (iI ((i : Int) + 1))), (12, .int (iI 1)), (10, .long (lI (((μ 4) x0.toNat) - ((μ 4) i)))), (8, .long (lI (((μ 3) i) - ((μ 3) x0.toNat)))), (0, .ref (md 0)), (1, .int (iI (x0.toNat : Int))), (2, .long (lI y)), (4, .long (lI z)), (6, .int (iI x))]) C 8 dX12_findPieces_276 rfl (by decide) rfl rfl ?_
                      refine x_lvI (lv' := [(7, .int (iI ((i + 1 : Nat) : Int))), (12, .int (iI 1)), (10, .long (lI (((μ 4) x0.toNat) - ((μ 4) i)))), (8, .long (lI (((μ 3) i) - ((μ 3) x0.toNat)))), (0, .ref (md 0)), (1, .int (iI (x0.toNat : Int))), (2, .long (lI y)), (4, .long (lI z)), (6, .int (iI x))]) 0 rfl (by omega) rfl ?_
                      refine x_goto (tgt := 131) C dX12_findPieces_279 (by decide) ?_
                      refine x_lv [4, 5, 6, 7, 8, 0] rfl ?_
                      exact ih131 ((i + 1), x, y, z) ⟨(show (i + 1) ≤ mn from by omega), (show RX (fun k_1 => μ 3 k_1 - μ 3 x0.toNat) (fun k_1 => μ 4 x0.toNat - μ 4 k_1) (σ 0 0) (i + 1) x y z from by first | exact RX_rej hR (fun hh => by have h1_ : 0 < μ 4 x0.toNat - μ 4 i := hh.1; omega) | exact RX_acc hR (show 0 < μ 4 x0.toNat - μ 4 i by omega) (show μ 3 i - μ 3 x0.toNat < σ 0 0 * (μ 4 x0.toNat - μ 4 i) by omega) (show (x = -1 ∨ (μ 3 i - μ 3 x0.toNat) * z < y * (μ 4 x0.toNat - μ 4 i) ∨ ((μ 3 i - μ 3 x0.toNat) * z = y * (μ 4 x0.toNat - μ 4 i) ∧ z < μ 4 x0.toNat - μ 4 i)) by omega) | exact RX_rej hR (fun hh => by have h1_ : 0 < μ 4 x0.toNat - μ 4 i ∧ μ 3 i - μ 3 x0.toNat < σ 0 0 * (μ 4 x0.toNat - μ 4 i) ∧ (x = -1 ∨ (μ 3 i - μ 3 x0.toNat) * z < y * (μ 4 x0.toNat - μ 4 i) ∨ ((μ 3 i - μ 3 x0.toNat) * z = y * (μ 4 x0.toNat - μ 4 i) ∧ z < μ 4 x0.toNat - μ 4 i)) := hh; omega)), (show -3200 ≤ y ∧ y ≤ 3200 from by omega), (show 1 ≤ z ∧ z ≤ 3200 from by omega), (show -1 ≤ x ∧ x < (mn : Int) from by omega)⟩ (show mn - (i + 1) < mn - i from by omega)
                    ·
                      refine x_lload (pc' := 253) C 2 dX12_findPieces_251 rfl rfl ?_
                      refine x_aload_n (pc' := 254) C 3 dX12_findPieces_253 rfl rfl ?_
                      refine x_get (pc' := 257) C dX12_findPieces_254 rfl ff_X12_7_11 0 rfl rfl ?_
                      refine x_i2l (pc' := 258) C dX12_findPieces_257 rfl (by omega) ?_
                      refine x_lload (pc' := 260) C 1 dX12_findPieces_258 rfl rfl ?_
                      refine x_lmul (pc' := 261) C dX12_findPieces_260 rfl ?_
                      refine x_lcmp_ge (pc' := 265) (tgt := 276) C dX12_findPieces_261 (pc1 := 262) rfl dX12_findPieces_262 rfl (by decide) (by omega) (by omega) (fun c261 => ?_) (fun c261 => ?_)
                      ·
                        refine x_iinc (pc' := 279) (lv' := [(7, .int (iI ((i : Int) + 1))), (12, .int (iI 1)), (10, .long (lI (((μ 4) x0.toNat) - ((μ 4) i)))), (8, .long (lI (((μ 3) i) - ((μ 3) x0.toNat)))), (0, .ref (md 0)), (1, .int (iI (x0.toNat : Int))), (2, .long (lI y)), (4, .long (lI z)), (6, .int (iI x))]) C 8 dX12_findPieces_276 rfl (by decide) rfl rfl ?_
                        refine x_lvI (lv' := [(7, .int (iI ((i + 1 : Nat) : Int))), (12, .int (iI 1)), (10, .long (lI (((μ 4) x0.toNat) - ((μ 4) i)))), (8, .long (lI (((μ 3) i) - ((μ 3) x0.toNat)))), (0, .ref (md 0)), (1, .int (iI (x0.toNat : Int))), (2, .long (lI y)), (4, .long (lI z)), (6, .int (iI x))]) 0 rfl (by omega) rfl ?_
                        refine x_goto (tgt := 131) C dX12_findPieces_279 (by decide) ?_
                        refine x_lv [4, 5, 6, 7, 8, 0] rfl ?_
                        exact ih131 ((i + 1), x, y, z) ⟨(show (i + 1) ≤ mn from by omega), (show RX (fun k_1 => μ 3 k_1 - μ 3 x0.toNat) (fun k_1 => μ 4 x0.toNat - μ 4 k_1) (σ 0 0) (i + 1) x y z from by first | exact RX_rej hR (fun hh => by have h1_ : 0 < μ 4 x0.toNat - μ 4 i := hh.1; omega) | exact RX_acc hR (show 0 < μ 4 x0.toNat - μ 4 i by omega) (show μ 3 i - μ 3 x0.toNat < σ 0 0 * (μ 4 x0.toNat - μ 4 i) by omega) (show (x = -1 ∨ (μ 3 i - μ 3 x0.toNat) * z < y * (μ 4 x0.toNat - μ 4 i) ∨ ((μ 3 i - μ 3 x0.toNat) * z = y * (μ 4 x0.toNat - μ 4 i) ∧ z < μ 4 x0.toNat - μ 4 i)) by omega) | exact RX_rej hR (fun hh => by have h1_ : 0 < μ 4 x0.toNat - μ 4 i ∧ μ 3 i - μ 3 x0.toNat < σ 0 0 * (μ 4 x0.toNat - μ 4 i) ∧ (x = -1 ∨ (μ 3 i - μ 3 x0.toNat) * z < y * (μ 4 x0.toNat - μ 4 i) ∨ ((μ 3 i - μ 3 x0.toNat) * z = y * (μ 4 x0.toNat - μ 4 i) ∧ z < μ 4 x0.toNat - μ 4 i)) := hh; omega)), (show -3200 ≤ y ∧ y ≤ 3200 from by omega), (show 1 ≤ z ∧ z ≤ 3200 from by omega), (show -1 ≤ x ∧ x < (mn : Int) from by omega)⟩ (show mn - (i + 1) < mn - i from by omega)
                      ·
                        refine x_iload (pc' := 267) C 8 dX12_findPieces_265 rfl rfl ?_
                        refine x_istore (pc' := 269) (lv' := [(6, .int (iI (i : Int))), (12, .int (iI 1)), (10, .long (lI (((μ 4) x0.toNat) - ((μ 4) i)))), (8, .long (lI (((μ 3) i) - ((μ 3) x0.toNat)))), (0, .ref (md 0)), (1, .int (iI (x0.toNat : Int))), (2, .long (lI y)), (4, .long (lI z)), (7, .int (iI (i : Int)))]) C dX12_findPieces_267 rfl (by decide) rfl ?_
                        refine x_lload (pc' := 271) C 3 dX12_findPieces_269 rfl rfl ?_
                        refine x_lstore_n (pc' := 272) (lv' := [(2, .long (lI (((μ 3) i) - ((μ 3) x0.toNat)))), (6, .int (iI (i : Int))), (12, .int (iI 1)), (10, .long (lI (((μ 4) x0.toNat) - ((μ 4) i)))), (8, .long (lI (((μ 3) i) - ((μ 3) x0.toNat)))), (0, .ref (md 0)), (1, .int (iI (x0.toNat : Int))), (4, .long (lI z)), (7, .int (iI (i : Int)))]) C dX12_findPieces_271 rfl (by decide) rfl ?_
                        refine x_lload (pc' := 274) C 3 dX12_findPieces_272 rfl rfl ?_
                        refine x_lstore (pc' := 276) (lv' := [(4, .long (lI (((μ 4) x0.toNat) - ((μ 4) i)))), (2, .long (lI (((μ 3) i) - ((μ 3) x0.toNat)))), (6, .int (iI (i : Int))), (12, .int (iI 1)), (10, .long (lI (((μ 4) x0.toNat) - ((μ 4) i)))), (8, .long (lI (((μ 3) i) - ((μ 3) x0.toNat)))), (0, .ref (md 0)), (1, .int (iI (x0.toNat : Int))), (7, .int (iI (i : Int)))]) C dX12_findPieces_274 rfl (by decide) rfl ?_
                        refine x_iinc (pc' := 279) (lv' := [(7, .int (iI ((i : Int) + 1))), (4, .long (lI (((μ 4) x0.toNat) - ((μ 4) i)))), (2, .long (lI (((μ 3) i) - ((μ 3) x0.toNat)))), (6, .int (iI (i : Int))), (12, .int (iI 1)), (10, .long (lI (((μ 4) x0.toNat) - ((μ 4) i)))), (8, .long (lI (((μ 3) i) - ((μ 3) x0.toNat)))), (0, .ref (md 0)), (1, .int (iI (x0.toNat : Int)))]) C 8 dX12_findPieces_276 rfl (by decide) rfl rfl ?_
                        refine x_lvI (lv' := [(7, .int (iI ((i + 1 : Nat) : Int))), (4, .long (lI (((μ 4) x0.toNat) - ((μ 4) i)))), (2, .long (lI (((μ 3) i) - ((μ 3) x0.toNat)))), (6, .int (iI (i : Int))), (12, .int (iI 1)), (10, .long (lI (((μ 4) x0.toNat) - ((μ 4) i)))), (8, .long (lI (((μ 3) i) - ((μ 3) x0.toNat)))), (0, .ref (md 0)), (1, .int (iI (x0.toNat : Int)))]) 0 rfl (by omega) rfl ?_
                        refine x_goto (tgt := 131) C dX12_findPieces_279 (by decide) ?_
                        refine x_lv [7, 8, 2, 1, 3, 0] rfl ?_
                        exact ih131 ((i + 1), (i : Int), (((μ 3) i) - ((μ 3) x0.toNat)), (((μ 4) x0.toNat) - ((μ 4) i))) ⟨(show (i + 1) ≤ mn from by omega), (show RX (fun k_1 => μ 3 k_1 - μ 3 x0.toNat) (fun k_1 => μ 4 x0.toNat - μ 4 k_1) (σ 0 0) (i + 1) (i : Int) (((μ 3) i) - ((μ 3) x0.toNat)) (((μ 4) x0.toNat) - ((μ 4) i)) from by first | exact RX_rej hR (fun hh => by have h1_ : 0 < μ 4 x0.toNat - μ 4 i := hh.1; omega) | exact RX_acc hR (show 0 < μ 4 x0.toNat - μ 4 i by omega) (show μ 3 i - μ 3 x0.toNat < σ 0 0 * (μ 4 x0.toNat - μ 4 i) by omega) (show (x = -1 ∨ (μ 3 i - μ 3 x0.toNat) * z < y * (μ 4 x0.toNat - μ 4 i) ∨ ((μ 3 i - μ 3 x0.toNat) * z = y * (μ 4 x0.toNat - μ 4 i) ∧ z < μ 4 x0.toNat - μ 4 i)) by omega) | exact RX_rej hR (fun hh => by have h1_ : 0 < μ 4 x0.toNat - μ 4 i ∧ μ 3 i - μ 3 x0.toNat < σ 0 0 * (μ 4 x0.toNat - μ 4 i) ∧ (x = -1 ∨ (μ 3 i - μ 3 x0.toNat) * z < y * (μ 4 x0.toNat - μ 4 i) ∨ ((μ 3 i - μ 3 x0.toNat) * z = y * (μ 4 x0.toNat - μ 4 i) ∧ z < μ 4 x0.toNat - μ 4 i)) := hh; omega)), (show -3200 ≤ (((μ 3) i) - ((μ 3) x0.toNat)) ∧ (((μ 3) i) - ((μ 3) x0.toNat)) ≤ 3200 from by omega), (show 1 ≤ (((μ 4) x0.toNat) - ((μ 4) i)) ∧ (((μ 4) x0.toNat) - ((μ 4) i)) ≤ 3200 from by omega), (show -1 ≤ (i : Int) ∧ (i : Int) < (mn : Int) from by omega)⟩ (show mn - (i + 1) < mn - i from by omega)
                  ·
                    refine x_lload (pc' := 211) C 1 dX12_findPieces_209 rfl rfl ?_
                    refine x_lload (pc' := 213) C 5 dX12_findPieces_211 rfl rfl ?_
                    refine x_lmul (pc' := 214) C dX12_findPieces_213 rfl ?_
                    refine x_lload_n (pc' := 215) C 4 dX12_findPieces_214 rfl rfl ?_
                    refine x_lload (pc' := 217) C 0 dX12_findPieces_215 rfl rfl ?_
                    refine x_lmul (pc' := 218) C dX12_findPieces_217 rfl ?_
                    refine x_lcmp_ne (pc' := 222) (tgt := 243) C dX12_findPieces_218 (pc1 := 219) rfl dX12_findPieces_219 rfl (by decide) (by omega) (by omega) (fun c218 => ?_) (fun c218 => ?_)
                    ·
                      refine x_iconst (pc' := 244) C dX12_findPieces_243 rfl ?_
                      refine x_istore (pc' := 246) (lv' := [(12, .int (iI 0)), (10, .long (lI (((μ 4) x0.toNat) - ((μ 4) i)))), (8, .long (lI (((μ 3) i) - ((μ 3) x0.toNat)))), (0, .ref (md 0)), (1, .int (iI (x0.toNat : Int))), (2, .long (lI y)), (4, .long (lI z)), (6, .int (iI x)), (7, .int (iI (i : Int)))]) C dX12_findPieces_244 rfl (by decide) rfl ?_
                      refine x_iload (pc' := 248) C 0 dX12_findPieces_246 rfl rfl ?_
                      refine x_if_eq (pc' := 251) (tgt := 276) C dX12_findPieces_248 rfl (by decide) (by omega) (fun c248 => ?_) (fun c248 => ?_)
                      ·
                        refine x_iinc (pc' := 279) (lv' := [(7, .int (iI ((i : Int) + 1))), (12, .int (iI 0)), (10, .long (lI (((μ 4) x0.toNat) - ((μ 4) i)))), (8, .long (lI (((μ 3) i) - ((μ 3) x0.toNat)))), (0, .ref (md 0)), (1, .int (iI (x0.toNat : Int))), (2, .long (lI y)), (4, .long (lI z)), (6, .int (iI x))]) C 8 dX12_findPieces_276 rfl (by decide) rfl rfl ?_
                        refine x_lvI (lv' := [(7, .int (iI ((i + 1 : Nat) : Int))), (12, .int (iI 0)), (10, .long (lI (((μ 4) x0.toNat) - ((μ 4) i)))), (8, .long (lI (((μ 3) i) - ((μ 3) x0.toNat)))), (0, .ref (md 0)), (1, .int (iI (x0.toNat : Int))), (2, .long (lI y)), (4, .long (lI z)), (6, .int (iI x))]) 0 rfl (by omega) rfl ?_
                        refine x_goto (tgt := 131) C dX12_findPieces_279 (by decide) ?_
                        refine x_lv [4, 5, 6, 7, 8, 0] rfl ?_
                        exact ih131 ((i + 1), x, y, z) ⟨(show (i + 1) ≤ mn from by omega), (show RX (fun k_1 => μ 3 k_1 - μ 3 x0.toNat) (fun k_1 => μ 4 x0.toNat - μ 4 k_1) (σ 0 0) (i + 1) x y z from by first | exact RX_rej hR (fun hh => by have h1_ : 0 < μ 4 x0.toNat - μ 4 i := hh.1; omega) | exact RX_acc hR (show 0 < μ 4 x0.toNat - μ 4 i by omega) (show μ 3 i - μ 3 x0.toNat < σ 0 0 * (μ 4 x0.toNat - μ 4 i) by omega) (show (x = -1 ∨ (μ 3 i - μ 3 x0.toNat) * z < y * (μ 4 x0.toNat - μ 4 i) ∨ ((μ 3 i - μ 3 x0.toNat) * z = y * (μ 4 x0.toNat - μ 4 i) ∧ z < μ 4 x0.toNat - μ 4 i)) by omega) | exact RX_rej hR (fun hh => by have h1_ : 0 < μ 4 x0.toNat - μ 4 i ∧ μ 3 i - μ 3 x0.toNat < σ 0 0 * (μ 4 x0.toNat - μ 4 i) ∧ (x = -1 ∨ (μ 3 i - μ 3 x0.toNat) * z < y * (μ 4 x0.toNat - μ 4 i) ∨ ((μ 3 i - μ 3 x0.toNat) * z = y * (μ 4 x0.toNat - μ 4 i) ∧ z < μ 4 x0.toNat - μ 4 i)) := hh; omega)), (show -3200 ≤ y ∧ y ≤ 3200 from by omega), (show 1 ≤ z ∧ z ≤ 3200 from by omega), (show -1 ≤ x ∧ x < (mn : Int) from by omega)⟩ (show mn - (i + 1) < mn - i from by omega)
                      ·
                        refine x_lload (pc' := 253) C 2 dX12_findPieces_251 rfl rfl ?_
                        refine x_aload_n (pc' := 254) C 3 dX12_findPieces_253 rfl rfl ?_
                        refine x_get (pc' := 257) C dX12_findPieces_254 rfl ff_X12_7_11 0 rfl rfl ?_
                        refine x_i2l (pc' := 258) C dX12_findPieces_257 rfl (by omega) ?_
                        refine x_lload (pc' := 260) C 1 dX12_findPieces_258 rfl rfl ?_
                        refine x_lmul (pc' := 261) C dX12_findPieces_260 rfl ?_
                        refine x_lcmp_ge (pc' := 265) (tgt := 276) C dX12_findPieces_261 (pc1 := 262) rfl dX12_findPieces_262 rfl (by decide) (by omega) (by omega) (fun c261 => ?_) (fun c261 => ?_)
                        ·
                          refine x_iinc (pc' := 279) (lv' := [(7, .int (iI ((i : Int) + 1))), (12, .int (iI 0)), (10, .long (lI (((μ 4) x0.toNat) - ((μ 4) i)))), (8, .long (lI (((μ 3) i) - ((μ 3) x0.toNat)))), (0, .ref (md 0)), (1, .int (iI (x0.toNat : Int))), (2, .long (lI y)), (4, .long (lI z)), (6, .int (iI x))]) C 8 dX12_findPieces_276 rfl (by decide) rfl rfl ?_
                          refine x_lvI (lv' := [(7, .int (iI ((i + 1 : Nat) : Int))), (12, .int (iI 0)), (10, .long (lI (((μ 4) x0.toNat) - ((μ 4) i)))), (8, .long (lI (((μ 3) i) - ((μ 3) x0.toNat)))), (0, .ref (md 0)), (1, .int (iI (x0.toNat : Int))), (2, .long (lI y)), (4, .long (lI z)), (6, .int (iI x))]) 0 rfl (by omega) rfl ?_
                          refine x_goto (tgt := 131) C dX12_findPieces_279 (by decide) ?_
                          refine x_lv [4, 5, 6, 7, 8, 0] rfl ?_
                          exact ih131 ((i + 1), x, y, z) ⟨(show (i + 1) ≤ mn from by omega), (show RX (fun k_1 => μ 3 k_1 - μ 3 x0.toNat) (fun k_1 => μ 4 x0.toNat - μ 4 k_1) (σ 0 0) (i + 1) x y z from by first | exact RX_rej hR (fun hh => by have h1_ : 0 < μ 4 x0.toNat - μ 4 i := hh.1; omega) | exact RX_acc hR (show 0 < μ 4 x0.toNat - μ 4 i by omega) (show μ 3 i - μ 3 x0.toNat < σ 0 0 * (μ 4 x0.toNat - μ 4 i) by omega) (show (x = -1 ∨ (μ 3 i - μ 3 x0.toNat) * z < y * (μ 4 x0.toNat - μ 4 i) ∨ ((μ 3 i - μ 3 x0.toNat) * z = y * (μ 4 x0.toNat - μ 4 i) ∧ z < μ 4 x0.toNat - μ 4 i)) by omega) | exact RX_rej hR (fun hh => by have h1_ : 0 < μ 4 x0.toNat - μ 4 i ∧ μ 3 i - μ 3 x0.toNat < σ 0 0 * (μ 4 x0.toNat - μ 4 i) ∧ (x = -1 ∨ (μ 3 i - μ 3 x0.toNat) * z < y * (μ 4 x0.toNat - μ 4 i) ∨ ((μ 3 i - μ 3 x0.toNat) * z = y * (μ 4 x0.toNat - μ 4 i) ∧ z < μ 4 x0.toNat - μ 4 i)) := hh; omega)), (show -3200 ≤ y ∧ y ≤ 3200 from by omega), (show 1 ≤ z ∧ z ≤ 3200 from by omega), (show -1 ≤ x ∧ x < (mn : Int) from by omega)⟩ (show mn - (i + 1) < mn - i from by omega)
                        ·
                          refine x_iload (pc' := 267) C 8 dX12_findPieces_265 rfl rfl ?_
                          refine x_istore (pc' := 269) (lv' := [(6, .int (iI (i : Int))), (12, .int (iI 0)), (10, .long (lI (((μ 4) x0.toNat) - ((μ 4) i)))), (8, .long (lI (((μ 3) i) - ((μ 3) x0.toNat)))), (0, .ref (md 0)), (1, .int (iI (x0.toNat : Int))), (2, .long (lI y)), (4, .long (lI z)), (7, .int (iI (i : Int)))]) C dX12_findPieces_267 rfl (by decide) rfl ?_
                          refine x_lload (pc' := 271) C 3 dX12_findPieces_269 rfl rfl ?_
                          refine x_lstore_n (pc' := 272) (lv' := [(2, .long (lI (((μ 3) i) - ((μ 3) x0.toNat)))), (6, .int (iI (i : Int))), (12, .int (iI 0)), (10, .long (lI (((μ 4) x0.toNat) - ((μ 4) i)))), (8, .long (lI (((μ 3) i) - ((μ 3) x0.toNat)))), (0, .ref (md 0)), (1, .int (iI (x0.toNat : Int))), (4, .long (lI z)), (7, .int (iI (i : Int)))]) C dX12_findPieces_271 rfl (by decide) rfl ?_
                          refine x_lload (pc' := 274) C 3 dX12_findPieces_272 rfl rfl ?_
                          refine x_lstore (pc' := 276) (lv' := [(4, .long (lI (((μ 4) x0.toNat) - ((μ 4) i)))), (2, .long (lI (((μ 3) i) - ((μ 3) x0.toNat)))), (6, .int (iI (i : Int))), (12, .int (iI 0)), (10, .long (lI (((μ 4) x0.toNat) - ((μ 4) i)))), (8, .long (lI (((μ 3) i) - ((μ 3) x0.toNat)))), (0, .ref (md 0)), (1, .int (iI (x0.toNat : Int))), (7, .int (iI (i : Int)))]) C dX12_findPieces_274 rfl (by decide) rfl ?_
                          refine x_iinc (pc' := 279) (lv' := [(7, .int (iI ((i : Int) + 1))), (4, .long (lI (((μ 4) x0.toNat) - ((μ 4) i)))), (2, .long (lI (((μ 3) i) - ((μ 3) x0.toNat)))), (6, .int (iI (i : Int))), (12, .int (iI 0)), (10, .long (lI (((μ 4) x0.toNat) - ((μ 4) i)))), (8, .long (lI (((μ 3) i) - ((μ 3) x0.toNat)))), (0, .ref (md 0)), (1, .int (iI (x0.toNat : Int)))]) C 8 dX12_findPieces_276 rfl (by decide) rfl rfl ?_
                          refine x_lvI (lv' := [(7, .int (iI ((i + 1 : Nat) : Int))), (4, .long (lI (((μ 4) x0.toNat) - ((μ 4) i)))), (2, .long (lI (((μ 3) i) - ((μ 3) x0.toNat)))), (6, .int (iI (i : Int))), (12, .int (iI 0)), (10, .long (lI (((μ 4) x0.toNat) - ((μ 4) i)))), (8, .long (lI (((μ 3) i) - ((μ 3) x0.toNat)))), (0, .ref (md 0)), (1, .int (iI (x0.toNat : Int)))]) 0 rfl (by omega) rfl ?_
                          refine x_goto (tgt := 131) C dX12_findPieces_279 (by decide) ?_
                          refine x_lv [7, 8, 2, 1, 3, 0] rfl ?_
                          exact ih131 ((i + 1), (i : Int), (((μ 3) i) - ((μ 3) x0.toNat)), (((μ 4) x0.toNat) - ((μ 4) i))) ⟨(show (i + 1) ≤ mn from by omega), (show RX (fun k_1 => μ 3 k_1 - μ 3 x0.toNat) (fun k_1 => μ 4 x0.toNat - μ 4 k_1) (σ 0 0) (i + 1) (i : Int) (((μ 3) i) - ((μ 3) x0.toNat)) (((μ 4) x0.toNat) - ((μ 4) i)) from by first | exact RX_rej hR (fun hh => by have h1_ : 0 < μ 4 x0.toNat - μ 4 i := hh.1; omega) | exact RX_acc hR (show 0 < μ 4 x0.toNat - μ 4 i by omega) (show μ 3 i - μ 3 x0.toNat < σ 0 0 * (μ 4 x0.toNat - μ 4 i) by omega) (show (x = -1 ∨ (μ 3 i - μ 3 x0.toNat) * z < y * (μ 4 x0.toNat - μ 4 i) ∨ ((μ 3 i - μ 3 x0.toNat) * z = y * (μ 4 x0.toNat - μ 4 i) ∧ z < μ 4 x0.toNat - μ 4 i)) by omega) | exact RX_rej hR (fun hh => by have h1_ : 0 < μ 4 x0.toNat - μ 4 i ∧ μ 3 i - μ 3 x0.toNat < σ 0 0 * (μ 4 x0.toNat - μ 4 i) ∧ (x = -1 ∨ (μ 3 i - μ 3 x0.toNat) * z < y * (μ 4 x0.toNat - μ 4 i) ∨ ((μ 3 i - μ 3 x0.toNat) * z = y * (μ 4 x0.toNat - μ 4 i) ∧ z < μ 4 x0.toNat - μ 4 i)) := hh; omega)), (show -3200 ≤ (((μ 3) i) - ((μ 3) x0.toNat)) ∧ (((μ 3) i) - ((μ 3) x0.toNat)) ≤ 3200 from by omega), (show 1 ≤ (((μ 4) x0.toNat) - ((μ 4) i)) ∧ (((μ 4) x0.toNat) - ((μ 4) i)) ≤ 3200 from by omega), (show -1 ≤ (i : Int) ∧ (i : Int) < (mn : Int) from by omega)⟩ (show mn - (i + 1) < mn - i from by omega)
                    ·
                      refine x_aload_n (pc' := 223) C 2 dX12_findPieces_222 rfl rfl ?_
                      refine x_get (pc' := 226) C dX12_findPieces_223 rfl ff_X12_42_11 0 rfl rfl ?_
                      refine x_iload (pc' := 228) C 7 dX12_findPieces_226 rfl rfl ?_
                      refine x_iald (pc' := 229) C i dX12_findPieces_228 rfl 8 rfl (by omega) (by omega) (by omega) ?_
                      refine x_aload_n (pc' := 230) C 2 dX12_findPieces_229 rfl rfl ?_
                      refine x_get (pc' := 233) C dX12_findPieces_230 rfl ff_X12_42_11 0 rfl rfl ?_
                      refine x_iload (pc' := 235) C 6 dX12_findPieces_233 rfl rfl ?_
                      refine x_iald (pc' := 236) C x.toNat dX12_findPieces_235 rfl 8 rfl (by omega) (by omega) (by omega) ?_
                      refine x_icmp_ge (pc' := 239) (tgt := 243) C dX12_findPieces_236 rfl (by decide) (by omega) (by omega) (fun c236 => ?_) (fun c236 => ?_)
                      ·
                        refine x_iconst (pc' := 244) C dX12_findPieces_243 rfl ?_
                        refine x_istore (pc' := 246) (lv' := [(12, .int (iI 0)), (10, .long (lI (((μ 4) x0.toNat) - ((μ 4) i)))), (8, .long (lI (((μ 3) i) - ((μ 3) x0.toNat)))), (0, .ref (md 0)), (1, .int (iI (x0.toNat : Int))), (2, .long (lI y)), (4, .long (lI z)), (6, .int (iI x)), (7, .int (iI (i : Int)))]) C dX12_findPieces_244 rfl (by decide) rfl ?_
                        refine x_iload (pc' := 248) C 0 dX12_findPieces_246 rfl rfl ?_
                        refine x_if_eq (pc' := 251) (tgt := 276) C dX12_findPieces_248 rfl (by decide) (by omega) (fun c248 => ?_) (fun c248 => ?_)
                        ·
                          refine x_iinc (pc' := 279) (lv' := [(7, .int (iI ((i : Int) + 1))), (12, .int (iI 0)), (10, .long (lI (((μ 4) x0.toNat) - ((μ 4) i)))), (8, .long (lI (((μ 3) i) - ((μ 3) x0.toNat)))), (0, .ref (md 0)), (1, .int (iI (x0.toNat : Int))), (2, .long (lI y)), (4, .long (lI z)), (6, .int (iI x))]) C 8 dX12_findPieces_276 rfl (by decide) rfl rfl ?_
                          refine x_lvI (lv' := [(7, .int (iI ((i + 1 : Nat) : Int))), (12, .int (iI 0)), (10, .long (lI (((μ 4) x0.toNat) - ((μ 4) i)))), (8, .long (lI (((μ 3) i) - ((μ 3) x0.toNat)))), (0, .ref (md 0)), (1, .int (iI (x0.toNat : Int))), (2, .long (lI y)), (4, .long (lI z)), (6, .int (iI x))]) 0 rfl (by omega) rfl ?_
                          refine x_goto (tgt := 131) C dX12_findPieces_279 (by decide) ?_
                          refine x_lv [4, 5, 6, 7, 8, 0] rfl ?_
                          exact ih131 ((i + 1), x, y, z) ⟨(show (i + 1) ≤ mn from by omega), (show RX (fun k_1 => μ 3 k_1 - μ 3 x0.toNat) (fun k_1 => μ 4 x0.toNat - μ 4 k_1) (σ 0 0) (i + 1) x y z from by first | exact RX_rej hR (fun hh => by have h1_ : 0 < μ 4 x0.toNat - μ 4 i := hh.1; omega) | exact RX_acc hR (show 0 < μ 4 x0.toNat - μ 4 i by omega) (show μ 3 i - μ 3 x0.toNat < σ 0 0 * (μ 4 x0.toNat - μ 4 i) by omega) (show (x = -1 ∨ (μ 3 i - μ 3 x0.toNat) * z < y * (μ 4 x0.toNat - μ 4 i) ∨ ((μ 3 i - μ 3 x0.toNat) * z = y * (μ 4 x0.toNat - μ 4 i) ∧ z < μ 4 x0.toNat - μ 4 i)) by omega) | exact RX_rej hR (fun hh => by have h1_ : 0 < μ 4 x0.toNat - μ 4 i ∧ μ 3 i - μ 3 x0.toNat < σ 0 0 * (μ 4 x0.toNat - μ 4 i) ∧ (x = -1 ∨ (μ 3 i - μ 3 x0.toNat) * z < y * (μ 4 x0.toNat - μ 4 i) ∨ ((μ 3 i - μ 3 x0.toNat) * z = y * (μ 4 x0.toNat - μ 4 i) ∧ z < μ 4 x0.toNat - μ 4 i)) := hh; omega)), (show -3200 ≤ y ∧ y ≤ 3200 from by omega), (show 1 ≤ z ∧ z ≤ 3200 from by omega), (show -1 ≤ x ∧ x < (mn : Int) from by omega)⟩ (show mn - (i + 1) < mn - i from by omega)
                        ·
                          refine x_lload (pc' := 253) C 2 dX12_findPieces_251 rfl rfl ?_
                          refine x_aload_n (pc' := 254) C 3 dX12_findPieces_253 rfl rfl ?_
                          refine x_get (pc' := 257) C dX12_findPieces_254 rfl ff_X12_7_11 0 rfl rfl ?_
                          refine x_i2l (pc' := 258) C dX12_findPieces_257 rfl (by omega) ?_
                          refine x_lload (pc' := 260) C 1 dX12_findPieces_258 rfl rfl ?_
                          refine x_lmul (pc' := 261) C dX12_findPieces_260 rfl ?_
                          refine x_lcmp_ge (pc' := 265) (tgt := 276) C dX12_findPieces_261 (pc1 := 262) rfl dX12_findPieces_262 rfl (by decide) (by omega) (by omega) (fun c261 => ?_) (fun c261 => ?_)
                          ·
                            refine x_iinc (pc' := 279) (lv' := [(7, .int (iI ((i : Int) + 1))), (12, .int (iI 0)), (10, .long (lI (((μ 4) x0.toNat) - ((μ 4) i)))), (8, .long (lI (((μ 3) i) - ((μ 3) x0.toNat)))), (0, .ref (md 0)), (1, .int (iI (x0.toNat : Int))), (2, .long (lI y)), (4, .long (lI z)), (6, .int (iI x))]) C 8 dX12_findPieces_276 rfl (by decide) rfl rfl ?_
                            refine x_lvI (lv' := [(7, .int (iI ((i + 1 : Nat) : Int))), (12, .int (iI 0)), (10, .long (lI (((μ 4) x0.toNat) - ((μ 4) i)))), (8, .long (lI (((μ 3) i) - ((μ 3) x0.toNat)))), (0, .ref (md 0)), (1, .int (iI (x0.toNat : Int))), (2, .long (lI y)), (4, .long (lI z)), (6, .int (iI x))]) 0 rfl (by omega) rfl ?_
                            refine x_goto (tgt := 131) C dX12_findPieces_279 (by decide) ?_
                            refine x_lv [4, 5, 6, 7, 8, 0] rfl ?_
                            exact ih131 ((i + 1), x, y, z) ⟨(show (i + 1) ≤ mn from by omega), (show RX (fun k_1 => μ 3 k_1 - μ 3 x0.toNat) (fun k_1 => μ 4 x0.toNat - μ 4 k_1) (σ 0 0) (i + 1) x y z from by first | exact RX_rej hR (fun hh => by have h1_ : 0 < μ 4 x0.toNat - μ 4 i := hh.1; omega) | exact RX_acc hR (show 0 < μ 4 x0.toNat - μ 4 i by omega) (show μ 3 i - μ 3 x0.toNat < σ 0 0 * (μ 4 x0.toNat - μ 4 i) by omega) (show (x = -1 ∨ (μ 3 i - μ 3 x0.toNat) * z < y * (μ 4 x0.toNat - μ 4 i) ∨ ((μ 3 i - μ 3 x0.toNat) * z = y * (μ 4 x0.toNat - μ 4 i) ∧ z < μ 4 x0.toNat - μ 4 i)) by omega) | exact RX_rej hR (fun hh => by have h1_ : 0 < μ 4 x0.toNat - μ 4 i ∧ μ 3 i - μ 3 x0.toNat < σ 0 0 * (μ 4 x0.toNat - μ 4 i) ∧ (x = -1 ∨ (μ 3 i - μ 3 x0.toNat) * z < y * (μ 4 x0.toNat - μ 4 i) ∨ ((μ 3 i - μ 3 x0.toNat) * z = y * (μ 4 x0.toNat - μ 4 i) ∧ z < μ 4 x0.toNat - μ 4 i)) := hh; omega)), (show -3200 ≤ y ∧ y ≤ 3200 from by omega), (show 1 ≤ z ∧ z ≤ 3200 from by omega), (show -1 ≤ x ∧ x < (mn : Int) from by omega)⟩ (show mn - (i + 1) < mn - i from by omega)
                          ·
                            refine x_iload (pc' := 267) C 8 dX12_findPieces_265 rfl rfl ?_
                            refine x_istore (pc' := 269) (lv' := [(6, .int (iI (i : Int))), (12, .int (iI 0)), (10, .long (lI (((μ 4) x0.toNat) - ((μ 4) i)))), (8, .long (lI (((μ 3) i) - ((μ 3) x0.toNat)))), (0, .ref (md 0)), (1, .int (iI (x0.toNat : Int))), (2, .long (lI y)), (4, .long (lI z)), (7, .int (iI (i : Int)))]) C dX12_findPieces_267 rfl (by decide) rfl ?_
                            refine x_lload (pc' := 271) C 3 dX12_findPieces_269 rfl rfl ?_
                            refine x_lstore_n (pc' := 272) (lv' := [(2, .long (lI (((μ 3) i) - ((μ 3) x0.toNat)))), (6, .int (iI (i : Int))), (12, .int (iI 0)), (10, .long (lI (((μ 4) x0.toNat) - ((μ 4) i)))), (8, .long (lI (((μ 3) i) - ((μ 3) x0.toNat)))), (0, .ref (md 0)), (1, .int (iI (x0.toNat : Int))), (4, .long (lI z)), (7, .int (iI (i : Int)))]) C dX12_findPieces_271 rfl (by decide) rfl ?_
                            refine x_lload (pc' := 274) C 3 dX12_findPieces_272 rfl rfl ?_
                            refine x_lstore (pc' := 276) (lv' := [(4, .long (lI (((μ 4) x0.toNat) - ((μ 4) i)))), (2, .long (lI (((μ 3) i) - ((μ 3) x0.toNat)))), (6, .int (iI (i : Int))), (12, .int (iI 0)), (10, .long (lI (((μ 4) x0.toNat) - ((μ 4) i)))), (8, .long (lI (((μ 3) i) - ((μ 3) x0.toNat)))), (0, .ref (md 0)), (1, .int (iI (x0.toNat : Int))), (7, .int (iI (i : Int)))]) C dX12_findPieces_274 rfl (by decide) rfl ?_
                            refine x_iinc (pc' := 279) (lv' := [(7, .int (iI ((i : Int) + 1))), (4, .long (lI (((μ 4) x0.toNat) - ((μ 4) i)))), (2, .long (lI (((μ 3) i) - ((μ 3) x0.toNat)))), (6, .int (iI (i : Int))), (12, .int (iI 0)), (10, .long (lI (((μ 4) x0.toNat) - ((μ 4) i)))), (8, .long (lI (((μ 3) i) - ((μ 3) x0.toNat)))), (0, .ref (md 0)), (1, .int (iI (x0.toNat : Int)))]) C 8 dX12_findPieces_276 rfl (by decide) rfl rfl ?_
                            refine x_lvI (lv' := [(7, .int (iI ((i + 1 : Nat) : Int))), (4, .long (lI (((μ 4) x0.toNat) - ((μ 4) i)))), (2, .long (lI (((μ 3) i) - ((μ 3) x0.toNat)))), (6, .int (iI (i : Int))), (12, .int (iI 0)), (10, .long (lI (((μ 4) x0.toNat) - ((μ 4) i)))), (8, .long (lI (((μ 3) i) - ((μ 3) x0.toNat)))), (0, .ref (md 0)), (1, .int (iI (x0.toNat : Int)))]) 0 rfl (by omega) rfl ?_
                            refine x_goto (tgt := 131) C dX12_findPieces_279 (by decide) ?_
                            refine x_lv [7, 8, 2, 1, 3, 0] rfl ?_
                            exact ih131 ((i + 1), (i : Int), (((μ 3) i) - ((μ 3) x0.toNat)), (((μ 4) x0.toNat) - ((μ 4) i))) ⟨(show (i + 1) ≤ mn from by omega), (show RX (fun k_1 => μ 3 k_1 - μ 3 x0.toNat) (fun k_1 => μ 4 x0.toNat - μ 4 k_1) (σ 0 0) (i + 1) (i : Int) (((μ 3) i) - ((μ 3) x0.toNat)) (((μ 4) x0.toNat) - ((μ 4) i)) from by first | exact RX_rej hR (fun hh => by have h1_ : 0 < μ 4 x0.toNat - μ 4 i := hh.1; omega) | exact RX_acc hR (show 0 < μ 4 x0.toNat - μ 4 i by omega) (show μ 3 i - μ 3 x0.toNat < σ 0 0 * (μ 4 x0.toNat - μ 4 i) by omega) (show (x = -1 ∨ (μ 3 i - μ 3 x0.toNat) * z < y * (μ 4 x0.toNat - μ 4 i) ∨ ((μ 3 i - μ 3 x0.toNat) * z = y * (μ 4 x0.toNat - μ 4 i) ∧ z < μ 4 x0.toNat - μ 4 i)) by omega) | exact RX_rej hR (fun hh => by have h1_ : 0 < μ 4 x0.toNat - μ 4 i ∧ μ 3 i - μ 3 x0.toNat < σ 0 0 * (μ 4 x0.toNat - μ 4 i) ∧ (x = -1 ∨ (μ 3 i - μ 3 x0.toNat) * z < y * (μ 4 x0.toNat - μ 4 i) ∨ ((μ 3 i - μ 3 x0.toNat) * z = y * (μ 4 x0.toNat - μ 4 i) ∧ z < μ 4 x0.toNat - μ 4 i)) := hh; omega)), (show -3200 ≤ (((μ 3) i) - ((μ 3) x0.toNat)) ∧ (((μ 3) i) - ((μ 3) x0.toNat)) ≤ 3200 from by omega), (show 1 ≤ (((μ 4) x0.toNat) - ((μ 4) i)) ∧ (((μ 4) x0.toNat) - ((μ 4) i)) ≤ 3200 from by omega), (show -1 ≤ (i : Int) ∧ (i : Int) < (mn : Int) from by omega)⟩ (show mn - (i + 1) < mn - i from by omega)
                      ·
                        refine x_iconst (pc' := 240) C dX12_findPieces_239 rfl ?_
                        refine x_goto (tgt := 244) C dX12_findPieces_240 (by decide) ?_
                        refine x_istore (pc' := 246) (lv' := [(12, .int (iI 1)), (10, .long (lI (((μ 4) x0.toNat) - ((μ 4) i)))), (8, .long (lI (((μ 3) i) - ((μ 3) x0.toNat)))), (0, .ref (md 0)), (1, .int (iI (x0.toNat : Int))), (2, .long (lI y)), (4, .long (lI z)), (6, .int (iI x)), (7, .int (iI (i : Int)))]) C dX12_findPieces_244 rfl (by decide) rfl ?_
                        refine x_iload (pc' := 248) C 0 dX12_findPieces_246 rfl rfl ?_
                        refine x_if_eq (pc' := 251) (tgt := 276) C dX12_findPieces_248 rfl (by decide) (by omega) (fun c248 => ?_) (fun c248 => ?_)
                        ·
                          refine x_iinc (pc' := 279) (lv' := [(7, .int (iI ((i : Int) + 1))), (12, .int (iI 1)), (10, .long (lI (((μ 4) x0.toNat) - ((μ 4) i)))), (8, .long (lI (((μ 3) i) - ((μ 3) x0.toNat)))), (0, .ref (md 0)), (1, .int (iI (x0.toNat : Int))), (2, .long (lI y)), (4, .long (lI z)), (6, .int (iI x))]) C 8 dX12_findPieces_276 rfl (by decide) rfl rfl ?_
                          refine x_lvI (lv' := [(7, .int (iI ((i + 1 : Nat) : Int))), (12, .int (iI 1)), (10, .long (lI (((μ 4) x0.toNat) - ((μ 4) i)))), (8, .long (lI (((μ 3) i) - ((μ 3) x0.toNat)))), (0, .ref (md 0)), (1, .int (iI (x0.toNat : Int))), (2, .long (lI y)), (4, .long (lI z)), (6, .int (iI x))]) 0 rfl (by omega) rfl ?_
                          refine x_goto (tgt := 131) C dX12_findPieces_279 (by decide) ?_
                          refine x_lv [4, 5, 6, 7, 8, 0] rfl ?_
                          exact ih131 ((i + 1), x, y, z) ⟨(show (i + 1) ≤ mn from by omega), (show RX (fun k_1 => μ 3 k_1 - μ 3 x0.toNat) (fun k_1 => μ 4 x0.toNat - μ 4 k_1) (σ 0 0) (i + 1) x y z from by first | exact RX_rej hR (fun hh => by have h1_ : 0 < μ 4 x0.toNat - μ 4 i := hh.1; omega) | exact RX_acc hR (show 0 < μ 4 x0.toNat - μ 4 i by omega) (show μ 3 i - μ 3 x0.toNat < σ 0 0 * (μ 4 x0.toNat - μ 4 i) by omega) (show (x = -1 ∨ (μ 3 i - μ 3 x0.toNat) * z < y * (μ 4 x0.toNat - μ 4 i) ∨ ((μ 3 i - μ 3 x0.toNat) * z = y * (μ 4 x0.toNat - μ 4 i) ∧ z < μ 4 x0.toNat - μ 4 i)) by omega) | exact RX_rej hR (fun hh => by have h1_ : 0 < μ 4 x0.toNat - μ 4 i ∧ μ 3 i - μ 3 x0.toNat < σ 0 0 * (μ 4 x0.toNat - μ 4 i) ∧ (x = -1 ∨ (μ 3 i - μ 3 x0.toNat) * z < y * (μ 4 x0.toNat - μ 4 i) ∨ ((μ 3 i - μ 3 x0.toNat) * z = y * (μ 4 x0.toNat - μ 4 i) ∧ z < μ 4 x0.toNat - μ 4 i)) := hh; omega)), (show -3200 ≤ y ∧ y ≤ 3200 from by omega), (show 1 ≤ z ∧ z ≤ 3200 from by omega), (show -1 ≤ x ∧ x < (mn : Int) from by omega)⟩ (show mn - (i + 1) < mn - i from by omega)
                        ·
                          refine x_lload (pc' := 253) C 2 dX12_findPieces_251 rfl rfl ?_
                          refine x_aload_n (pc' := 254) C 3 dX12_findPieces_253 rfl rfl ?_
                          refine x_get (pc' := 257) C dX12_findPieces_254 rfl ff_X12_7_11 0 rfl rfl ?_
                          refine x_i2l (pc' := 258) C dX12_findPieces_257 rfl (by omega) ?_
                          refine x_lload (pc' := 260) C 1 dX12_findPieces_258 rfl rfl ?_
                          refine x_lmul (pc' := 261) C dX12_findPieces_260 rfl ?_
                          refine x_lcmp_ge (pc' := 265) (tgt := 276) C dX12_findPieces_261 (pc1 := 262) rfl dX12_findPieces_262 rfl (by decide) (by omega) (by omega) (fun c261 => ?_) (fun c261 => ?_)
                          ·
                            refine x_iinc (pc' := 279) (lv' := [(7, .int (iI ((i : Int) + 1))), (12, .int (iI 1)), (10, .long (lI (((μ 4) x0.toNat) - ((μ 4) i)))), (8, .long (lI (((μ 3) i) - ((μ 3) x0.toNat)))), (0, .ref (md 0)), (1, .int (iI (x0.toNat : Int))), (2, .long (lI y)), (4, .long (lI z)), (6, .int (iI x))]) C 8 dX12_findPieces_276 rfl (by decide) rfl rfl ?_
                            refine x_lvI (lv' := [(7, .int (iI ((i + 1 : Nat) : Int))), (12, .int (iI 1)), (10, .long (lI (((μ 4) x0.toNat) - ((μ 4) i)))), (8, .long (lI (((μ 3) i) - ((μ 3) x0.toNat)))), (0, .ref (md 0)), (1, .int (iI (x0.toNat : Int))), (2, .long (lI y)), (4, .long (lI z)), (6, .int (iI x))]) 0 rfl (by omega) rfl ?_
                            refine x_goto (tgt := 131) C dX12_findPieces_279 (by decide) ?_
                            refine x_lv [4, 5, 6, 7, 8, 0] rfl ?_
                            exact ih131 ((i + 1), x, y, z) ⟨(show (i + 1) ≤ mn from by omega), (show RX (fun k_1 => μ 3 k_1 - μ 3 x0.toNat) (fun k_1 => μ 4 x0.toNat - μ 4 k_1) (σ 0 0) (i + 1) x y z from by first | exact RX_rej hR (fun hh => by have h1_ : 0 < μ 4 x0.toNat - μ 4 i := hh.1; omega) | exact RX_acc hR (show 0 < μ 4 x0.toNat - μ 4 i by omega) (show μ 3 i - μ 3 x0.toNat < σ 0 0 * (μ 4 x0.toNat - μ 4 i) by omega) (show (x = -1 ∨ (μ 3 i - μ 3 x0.toNat) * z < y * (μ 4 x0.toNat - μ 4 i) ∨ ((μ 3 i - μ 3 x0.toNat) * z = y * (μ 4 x0.toNat - μ 4 i) ∧ z < μ 4 x0.toNat - μ 4 i)) by omega) | exact RX_rej hR (fun hh => by have h1_ : 0 < μ 4 x0.toNat - μ 4 i ∧ μ 3 i - μ 3 x0.toNat < σ 0 0 * (μ 4 x0.toNat - μ 4 i) ∧ (x = -1 ∨ (μ 3 i - μ 3 x0.toNat) * z < y * (μ 4 x0.toNat - μ 4 i) ∨ ((μ 3 i - μ 3 x0.toNat) * z = y * (μ 4 x0.toNat - μ 4 i) ∧ z < μ 4 x0.toNat - μ 4 i)) := hh; omega)), (show -3200 ≤ y ∧ y ≤ 3200 from by omega), (show 1 ≤ z ∧ z ≤ 3200 from by omega), (show -1 ≤ x ∧ x < (mn : Int) from by omega)⟩ (show mn - (i + 1) < mn - i from by omega)
                          ·
                            refine x_iload (pc' := 267) C 8 dX12_findPieces_265 rfl rfl ?_
                            refine x_istore (pc' := 269) (lv' := [(6, .int (iI (i : Int))), (12, .int (iI 1)), (10, .long (lI (((μ 4) x0.toNat) - ((μ 4) i)))), (8, .long (lI (((μ 3) i) - ((μ 3) x0.toNat)))), (0, .ref (md 0)), (1, .int (iI (x0.toNat : Int))), (2, .long (lI y)), (4, .long (lI z)), (7, .int (iI (i : Int)))]) C dX12_findPieces_267 rfl (by decide) rfl ?_
                            refine x_lload (pc' := 271) C 3 dX12_findPieces_269 rfl rfl ?_
                            refine x_lstore_n (pc' := 272) (lv' := [(2, .long (lI (((μ 3) i) - ((μ 3) x0.toNat)))), (6, .int (iI (i : Int))), (12, .int (iI 1)), (10, .long (lI (((μ 4) x0.toNat) - ((μ 4) i)))), (8, .long (lI (((μ 3) i) - ((μ 3) x0.toNat)))), (0, .ref (md 0)), (1, .int (iI (x0.toNat : Int))), (4, .long (lI z)), (7, .int (iI (i : Int)))]) C dX12_findPieces_271 rfl (by decide) rfl ?_
                            refine x_lload (pc' := 274) C 3 dX12_findPieces_272 rfl rfl ?_
                            refine x_lstore (pc' := 276) (lv' := [(4, .long (lI (((μ 4) x0.toNat) - ((μ 4) i)))), (2, .long (lI (((μ 3) i) - ((μ 3) x0.toNat)))), (6, .int (iI (i : Int))), (12, .int (iI 1)), (10, .long (lI (((μ 4) x0.toNat) - ((μ 4) i)))), (8, .long (lI (((μ 3) i) - ((μ 3) x0.toNat)))), (0, .ref (md 0)), (1, .int (iI (x0.toNat : Int))), (7, .int (iI (i : Int)))]) C dX12_findPieces_274 rfl (by decide) rfl ?_
                            refine x_iinc (pc' := 279) (lv' := [(7, .int (iI ((i : Int) + 1))), (4, .long (lI (((μ 4) x0.toNat) - ((μ 4) i)))), (2, .long (lI (((μ 3) i) - ((μ 3) x0.toNat)))), (6, .int (iI (i : Int))), (12, .int (iI 1)), (10, .long (lI (((μ 4) x0.toNat) - ((μ 4) i)))), (8, .long (lI (((μ 3) i) - ((μ 3) x0.toNat)))), (0, .ref (md 0)), (1, .int (iI (x0.toNat : Int)))]) C 8 dX12_findPieces_276 rfl (by decide) rfl rfl ?_
                            refine x_lvI (lv' := [(7, .int (iI ((i + 1 : Nat) : Int))), (4, .long (lI (((μ 4) x0.toNat) - ((μ 4) i)))), (2, .long (lI (((μ 3) i) - ((μ 3) x0.toNat)))), (6, .int (iI (i : Int))), (12, .int (iI 1)), (10, .long (lI (((μ 4) x0.toNat) - ((μ 4) i)))), (8, .long (lI (((μ 3) i) - ((μ 3) x0.toNat)))), (0, .ref (md 0)), (1, .int (iI (x0.toNat : Int)))]) 0 rfl (by omega) rfl ?_
                            refine x_goto (tgt := 131) C dX12_findPieces_279 (by decide) ?_
                            refine x_lv [7, 8, 2, 1, 3, 0] rfl ?_
                            exact ih131 ((i + 1), (i : Int), (((μ 3) i) - ((μ 3) x0.toNat)), (((μ 4) x0.toNat) - ((μ 4) i))) ⟨(show (i + 1) ≤ mn from by omega), (show RX (fun k_1 => μ 3 k_1 - μ 3 x0.toNat) (fun k_1 => μ 4 x0.toNat - μ 4 k_1) (σ 0 0) (i + 1) (i : Int) (((μ 3) i) - ((μ 3) x0.toNat)) (((μ 4) x0.toNat) - ((μ 4) i)) from by first | exact RX_rej hR (fun hh => by have h1_ : 0 < μ 4 x0.toNat - μ 4 i := hh.1; omega) | exact RX_acc hR (show 0 < μ 4 x0.toNat - μ 4 i by omega) (show μ 3 i - μ 3 x0.toNat < σ 0 0 * (μ 4 x0.toNat - μ 4 i) by omega) (show (x = -1 ∨ (μ 3 i - μ 3 x0.toNat) * z < y * (μ 4 x0.toNat - μ 4 i) ∨ ((μ 3 i - μ 3 x0.toNat) * z = y * (μ 4 x0.toNat - μ 4 i) ∧ z < μ 4 x0.toNat - μ 4 i)) by omega) | exact RX_rej hR (fun hh => by have h1_ : 0 < μ 4 x0.toNat - μ 4 i ∧ μ 3 i - μ 3 x0.toNat < σ 0 0 * (μ 4 x0.toNat - μ 4 i) ∧ (x = -1 ∨ (μ 3 i - μ 3 x0.toNat) * z < y * (μ 4 x0.toNat - μ 4 i) ∨ ((μ 3 i - μ 3 x0.toNat) * z = y * (μ 4 x0.toNat - μ 4 i) ∧ z < μ 4 x0.toNat - μ 4 i)) := hh; omega)), (show -3200 ≤ (((μ 3) i) - ((μ 3) x0.toNat)) ∧ (((μ 3) i) - ((μ 3) x0.toNat)) ≤ 3200 from by omega), (show 1 ≤ (((μ 4) x0.toNat) - ((μ 4) i)) ∧ (((μ 4) x0.toNat) - ((μ 4) i)) ≤ 3200 from by omega), (show -1 ≤ (i : Int) ∧ (i : Int) < (mn : Int) from by omega)⟩ (show mn - (i + 1) < mn - i from by omega)
          · exact ⟨(show 0 ≤ mn from by omega), (show RX (fun k_1 => μ 3 k_1 - μ 3 x0.toNat) (fun k_1 => μ 4 x0.toNat - μ 4 k_1) (σ 0 0) 0 (-1) y0 z0 from ⟨rfl, fun hh => absurd rfl hh⟩), (show -3200 ≤ y0 ∧ y0 ≤ 3200 from by omega), (show 1 ≤ z0 ∧ z0 ≤ 3200 from by omega), (show -1 ≤ (-1) ∧ (-1) < (mn : Int) from by omega)⟩
      · exact ⟨(show -1 ≤ (j : Int) ∧ (j : Int) < (mn : Int) from by omega), (show (j : Int) = (pseq (μ 3) (μ 4) mn (σ 0 0) 0).1 from by rw [hb_, show i = mn by omega]; rfl), (show (j : Int) ≠ -1 → 0 = (pseq (μ 3) (μ 4) mn (σ 0 0) 0).2.1 ∧ 1 = (pseq (μ 3) (μ 4) mn (σ 0 0) 0).2.2 from fun _ => ⟨rfl, rfl⟩), (show ∀ j_ : Nat, j_ < 0 → (pseq (μ 3) (μ 4) mn (σ 0 0) j_).1 ≠ -1 from fun j_ h_ => absurd h_ (Nat.not_lt_zero _)), (show ∀ j_ : Nat, j_ < 0 → (μ 5) j_ = (pseq (μ 3) (μ 4) mn (σ 0 0) j_).1 from fun j_ h_ => absurd h_ (Nat.not_lt_zero _)), (show ∀ j_ : Nat, j_ < 0 → (μ 6) j_ = (pseq (μ 3) (μ 4) mn (σ 0 0) j_).2.1 from fun j_ h_ => absurd h_ (Nat.not_lt_zero _)), (show ∀ j_ : Nat, j_ < 0 → (μ 7) j_ = (pseq (μ 3) (μ 4) mn (σ 0 0) j_).2.2 from fun j_ h_ => absurd h_ (Nat.not_lt_zero _)), (show 0 = 0 → (j : Int) ≠ -1 from fun _ => by omega), (show 0 ≤ 140 from by omega)⟩
    ·
      have b1 := hA i (by omega)
      have b2 := hA j (by omega)
      have b3 := hB i (by omega)
      have b4 := hB j (by omega)
      refine x_aload_n (pc' := 13) C 0 dX12_findPieces_12 rfl rfl ?_
      refine x_get (pc' := 16) C dX12_findPieces_13 rfl ff_X12_39_11 0 rfl rfl ?_
      refine x_iload_n (pc' := 17) C 2 dX12_findPieces_16 rfl rfl ?_
      refine x_iald (pc' := 18) C i dX12_findPieces_17 rfl 7 rfl (by omega) (by omega) (by omega) ?_
      refine x_aload_n (pc' := 19) C 0 dX12_findPieces_18 rfl rfl ?_
      refine x_get (pc' := 22) C dX12_findPieces_19 rfl ff_X12_39_11 0 rfl rfl ?_
      refine x_iload_n (pc' := 23) C 1 dX12_findPieces_22 rfl rfl ?_
      refine x_iald (pc' := 24) C j dX12_findPieces_23 rfl 7 rfl (by omega) (by omega) (by omega) ?_
      refine x_icmp_lt (pc' := 27) (tgt := 57) C dX12_findPieces_24 rfl (by decide) (by omega) (by omega) (fun c24 => ?_) (fun c24 => ?_)
      ·
        refine x_iload_n (pc' := 58) C 2 dX12_findPieces_57 rfl rfl ?_
        refine x_goto (tgt := 62) C dX12_findPieces_58 (by decide) ?_
        refine x_istore_n (pc' := 63) (lv' := [(1, .int (iI (i : Int))), (0, .ref (md 0)), (2, .int (iI (i : Int)))]) C dX12_findPieces_62 rfl (by decide) rfl ?_
        refine x_iinc (pc' := 66) (lv' := [(2, .int (iI ((i : Int) + 1))), (1, .int (iI (i : Int))), (0, .ref (md 0))]) C 2 dX12_findPieces_63 rfl (by decide) rfl rfl ?_
        refine x_lvI (lv' := [(2, .int (iI ((i + 1 : Nat) : Int))), (1, .int (iI (i : Int))), (0, .ref (md 0))]) 0 rfl (by omega) rfl ?_
        refine x_goto (tgt := 4) C dX12_findPieces_66 (by decide) ?_
        refine x_lv [2, 1, 0] rfl ?_
        exact ih4 ((i + 1), i) ⟨(show 1 ≤ (i + 1) ∧ (i + 1) ≤ mn from by omega), (show i < mn from by omega), (show i = fpl (μ 3) (μ 4) (i + 1) from by first | exact fpl_step hb_ (by omega) | exact fpl_stay hb_ (by omega))⟩ (show mn - (i + 1) < mn - i from by omega)
      ·
        refine x_aload_n (pc' := 28) C 0 dX12_findPieces_27 rfl rfl ?_
        refine x_get (pc' := 31) C dX12_findPieces_28 rfl ff_X12_39_11 0 rfl rfl ?_
        refine x_iload_n (pc' := 32) C 2 dX12_findPieces_31 rfl rfl ?_
        refine x_iald (pc' := 33) C i dX12_findPieces_32 rfl 7 rfl (by omega) (by omega) (by omega) ?_
        refine x_aload_n (pc' := 34) C 0 dX12_findPieces_33 rfl rfl ?_
        refine x_get (pc' := 37) C dX12_findPieces_34 rfl ff_X12_39_11 0 rfl rfl ?_
        refine x_iload_n (pc' := 38) C 1 dX12_findPieces_37 rfl rfl ?_
        refine x_iald (pc' := 39) C j dX12_findPieces_38 rfl 7 rfl (by omega) (by omega) (by omega) ?_
        refine x_icmp_ne (pc' := 42) (tgt := 61) C dX12_findPieces_39 rfl (by decide) (by omega) (by omega) (fun c39 => ?_) (fun c39 => ?_)
        ·
          refine x_iload_n (pc' := 62) C 1 dX12_findPieces_61 rfl rfl ?_
          refine x_istore_n (pc' := 63) (lv' := [(1, .int (iI (j : Int))), (0, .ref (md 0)), (2, .int (iI (i : Int)))]) C dX12_findPieces_62 rfl (by decide) rfl ?_
          refine x_iinc (pc' := 66) (lv' := [(2, .int (iI ((i : Int) + 1))), (1, .int (iI (j : Int))), (0, .ref (md 0))]) C 2 dX12_findPieces_63 rfl (by decide) rfl rfl ?_
          refine x_lvI (lv' := [(2, .int (iI ((i + 1 : Nat) : Int))), (1, .int (iI (j : Int))), (0, .ref (md 0))]) 0 rfl (by omega) rfl ?_
          refine x_goto (tgt := 4) C dX12_findPieces_66 (by decide) ?_
          refine x_lv [2, 1, 0] rfl ?_
          exact ih4 ((i + 1), j) ⟨(show 1 ≤ (i + 1) ∧ (i + 1) ≤ mn from by omega), (show j < mn from by omega), (show j = fpl (μ 3) (μ 4) (i + 1) from by first | exact fpl_step hb_ (by omega) | exact fpl_stay hb_ (by omega))⟩ (show mn - (i + 1) < mn - i from by omega)
        ·
          refine x_aload_n (pc' := 43) C 0 dX12_findPieces_42 rfl rfl ?_
          refine x_get (pc' := 46) C dX12_findPieces_43 rfl ff_X12_42_11 0 rfl rfl ?_
          refine x_iload_n (pc' := 47) C 2 dX12_findPieces_46 rfl rfl ?_
          refine x_iald (pc' := 48) C i dX12_findPieces_47 rfl 8 rfl (by omega) (by omega) (by omega) ?_
          refine x_aload_n (pc' := 49) C 0 dX12_findPieces_48 rfl rfl ?_
          refine x_get (pc' := 52) C dX12_findPieces_49 rfl ff_X12_42_11 0 rfl rfl ?_
          refine x_iload_n (pc' := 53) C 1 dX12_findPieces_52 rfl rfl ?_
          refine x_iald (pc' := 54) C j dX12_findPieces_53 rfl 8 rfl (by omega) (by omega) (by omega) ?_
          refine x_icmp_ge (pc' := 57) (tgt := 61) C dX12_findPieces_54 rfl (by decide) (by omega) (by omega) (fun c54 => ?_) (fun c54 => ?_)
          ·
            refine x_iload_n (pc' := 62) C 1 dX12_findPieces_61 rfl rfl ?_
            refine x_istore_n (pc' := 63) (lv' := [(1, .int (iI (j : Int))), (0, .ref (md 0)), (2, .int (iI (i : Int)))]) C dX12_findPieces_62 rfl (by decide) rfl ?_
            refine x_iinc (pc' := 66) (lv' := [(2, .int (iI ((i : Int) + 1))), (1, .int (iI (j : Int))), (0, .ref (md 0))]) C 2 dX12_findPieces_63 rfl (by decide) rfl rfl ?_
            refine x_lvI (lv' := [(2, .int (iI ((i + 1 : Nat) : Int))), (1, .int (iI (j : Int))), (0, .ref (md 0))]) 0 rfl (by omega) rfl ?_
            refine x_goto (tgt := 4) C dX12_findPieces_66 (by decide) ?_
            refine x_lv [2, 1, 0] rfl ?_
            exact ih4 ((i + 1), j) ⟨(show 1 ≤ (i + 1) ∧ (i + 1) ≤ mn from by omega), (show j < mn from by omega), (show j = fpl (μ 3) (μ 4) (i + 1) from by first | exact fpl_step hb_ (by omega) | exact fpl_stay hb_ (by omega))⟩ (show mn - (i + 1) < mn - i from by omega)
          ·
            refine x_iload_n (pc' := 58) C 2 dX12_findPieces_57 rfl rfl ?_
            refine x_goto (tgt := 62) C dX12_findPieces_58 (by decide) ?_
            refine x_istore_n (pc' := 63) (lv' := [(1, .int (iI (i : Int))), (0, .ref (md 0)), (2, .int (iI (i : Int)))]) C dX12_findPieces_62 rfl (by decide) rfl ?_
            refine x_iinc (pc' := 66) (lv' := [(2, .int (iI ((i : Int) + 1))), (1, .int (iI (i : Int))), (0, .ref (md 0))]) C 2 dX12_findPieces_63 rfl (by decide) rfl rfl ?_
            refine x_lvI (lv' := [(2, .int (iI ((i + 1 : Nat) : Int))), (1, .int (iI (i : Int))), (0, .ref (md 0))]) 0 rfl (by omega) rfl ?_
            refine x_goto (tgt := 4) C dX12_findPieces_66 (by decide) ?_
            refine x_lv [2, 1, 0] rfl ?_
            exact ih4 ((i + 1), i) ⟨(show 1 ≤ (i + 1) ∧ (i + 1) ≤ mn from by omega), (show i < mn from by omega), (show i = fpl (μ 3) (μ 4) (i + 1) from by first | exact fpl_step hb_ (by omega) | exact fpl_stay hb_ (by omega))⟩ (show mn - (i + 1) < mn - i from by omega)
  · exact ⟨(show 1 ≤ 1 ∧ 1 ≤ mn from by omega), (show 0 < mn from by omega), (show 0 = fpl (μ 3) (μ 4) 1 from (fpl_1 _ _).symm)⟩
