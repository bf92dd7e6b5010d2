set_option maxHeartbeats 4000000 in
set_option maxRecDepth 100000 in
theorem c_X7_setEnd (l : Launch) (E : EV) (g : Nat) (gp : Nat) (gA : Nat) (gB : Nat) (c : Nat) (j : Nat) (fA : Nat → Int) (fB : Nat → Int) (x : Int) (y : Int) (hj : j < 141) : MC l E yX7_setEnd cX7_setEnd 6 (none) ({ frames := 0, cells := 0, slots := 0, locals := 0 }) [.ref g, .int (iI (j : Int)), .long (lI x), .long (lI y)] [(g, ob 6 [.ref gp, .ref gA, .ref gB, .int (iI (c : Int))]), (gA, la E 141 fA), (gB, la E 141 fB)] (fun v_ w_ => v_ = none ∧ w_ = [(g, ob 6 [.ref gp, .ref gA, .ref gB, .int (iI (c : Int))]), (gA, la E 141 (va_up fA j x)), (gB, la E 141 (va_up fB j y))]) := by
  refine MC.of (by decide +kernel) (Nat.le_of_ble_eq_true rfl) ?_
  intro p_ e_ s_ m_ args_ below_ meth_ c_ A_ C hr hnm
  have C : Cx p_ s_ m_ args_ meth_ c_ E A_ 6 cX7_setEnd RX7 := C
  show Wx _ _ _ _ _ _ _ _ _ _ _ _ _ _ _ _ 0 [(0, .ref g), (1, .int (iI (j : Int))), (2, .long (lI x)), (4, .long (lI y))] [] [(g, ob 6 [.ref gp, .ref gA, .ref gB, .int (iI (c : Int))]), (gA, la E 141 fA), (gB, la E 141 fB)]
  refine x_aload_n (pc' := 1) C 0 dX7_setEnd_0 rfl rfl ?_
  refine x_get (pc' := 4) C dX7_setEnd_1 rfl ff_X7_15_6 0 rfl rfl ?_
  refine x_iload_n (pc' := 5) C 1 dX7_setEnd_4 rfl rfl ?_
  refine x_lload_n (pc' := 6) C 2 dX7_setEnd_5 rfl rfl ?_
  refine x_last (pc' := 7) (ws' := [(g, ob 6 [.ref gp, .ref gA, .ref gB, .int (iI (c : Int))]), (gA, la E 141 (va_up fA j x)), (gB, la E 141 fB)]) C j dX7_setEnd_6 rfl 1 rfl (by omega) (by omega) (by omega) rfl ?_
  refine x_aload_n (pc' := 8) C 0 dX7_setEnd_7 rfl rfl ?_
  refine x_get (pc' := 11) C dX7_setEnd_8 rfl ff_X7_19_6 0 rfl rfl ?_
  refine x_iload_n (pc' := 12) C 1 dX7_setEnd_11 rfl rfl ?_
  refine x_lload (pc' := 14) C 3 dX7_setEnd_12 rfl rfl ?_
  refine x_last (pc' := 15) (ws' := [(g, ob 6 [.ref gp, .ref gA, .ref gB, .int (iI (c : Int))]), (gA, la E 141 (va_up fA j x)), (gB, la E 141 (va_up fB j y))]) C j dX7_setEnd_14 rfl 2 rfl (by omega) (by omega) (by omega) rfl ?_
  exact x_vret C hr dX7_setEnd_15 ⟨rfl, rfl⟩

set_option maxHeartbeats 4000000 in
set_option maxRecDepth 100000 in
theorem c_X7_firstPlan (l : Launch) (E : EV) (h : Nat) (hb : Nat) (ha : Nat) (hc : Nat) (n : Nat) (sg : Int) (fa : Nat → Int) (fc : Nat → Int) (hn : n ≤ 2002) (h0 : 0 < n) (hA : ∀ j_ : Nat, j_ < n → -1600 ≤ fa j_ ∧ fa j_ ≤ 1600) (hB : ∀ j_ : Nat, j_ < n → -1600 ≤ fc j_ ∧ fc j_ ≤ 1600) (hsg : sg = 1 ∨ sg = -1) : MC l E yX7_firstPlan cX7_firstPlan 5 (some .int) ({ frames := 0, cells := 0, slots := 0, locals := 0 }) [.ref h] [(h, ob 7 [.ref hb, .ref ha, .ref hc, .int (iI (n : Int)), .int (iI sg)]), (ha, ia E 2002 fa), (hc, ia E 2002 fc)] (fun v_ w_ => v_ = some (.int (iI ((fpl (fun q_ => sg * fa q_) (fun q_ => sg * fc q_) n : Nat) : Int))) ∧ w_ = [(h, ob 7 [.ref hb, .ref ha, .ref hc, .int (iI (n : Int)), .int (iI sg)]), (ha, ia E 2002 fa), (hc, ia E 2002 fc)]) := by
  refine MC.of (by decide +kernel) (Nat.le_of_ble_eq_true rfl) ?_
  intro p_ e_ s_ m_ args_ below_ meth_ c_ A_ C hr hnm
  have C : Cx p_ s_ m_ args_ meth_ c_ E A_ 5 cX7_firstPlan RX7 := C
  show Wx _ _ _ _ _ _ _ _ _ _ _ _ _ _ _ _ 0 [(0, .ref h)] [] [(h, ob 7 [.ref hb, .ref ha, .ref hc, .int (iI (n : Int)), .int (iI sg)]), (ha, ia E 2002 fa), (hc, ia E 2002 fc)]
  refine x_iconst (pc' := 1) C dX7_firstPlan_0 rfl ?_
  refine x_istore_n (pc' := 2) (lv' := [(1, .int (iI 0)), (0, .ref h)]) C dX7_firstPlan_1 rfl (by decide) rfl ?_
  refine x_iconst (pc' := 3) C dX7_firstPlan_2 rfl ?_
  refine x_istore_n (pc' := 4) (lv' := [(2, .int (iI 1)), (1, .int (iI 0)), (0, .ref h)]) C dX7_firstPlan_3 rfl (by decide) rfl ?_
  refine x_lv [2, 1, 0] rfl ?_
  refine x_loop (α := (Nat) × (Nat)) (fun a_ => (1 ≤ a_.1 ∧ a_.1 ≤ n) ∧ (a_.2 < n) ∧ (a_.2 = fpl (fun q_ => sg * fa q_) (fun q_ => sg * fc q_) a_.1)) (fun a_ => n - a_.1) (fun a_ => [(0, .ref h), (1, .int (iI (a_.2 : Int))), (2, .int (iI (a_.1 : Int)))]) (fun a_ => [(h, ob 7 [.ref hb, .ref ha, .ref hc, .int (iI (n : Int)), .int (iI sg)]), (ha, ia E 2002 fa), (hc, ia E 2002 fc)]) ?_ (1, 0) ?_
  · intro a_ hI_ ih4
    obtain ⟨i, j⟩ := a_
    obtain ⟨hi, hj, hb_⟩ := hI_
    replace hi : 1 ≤ i ∧ i ≤ n := hi
    replace hj : j < n := hj
    replace hb_ : j = fpl (fun q_ => sg * fa q_) (fun q_ => sg * fc q_) i := hb_
    show Wx _ _ _ _ _ _ _ _ _ _ _ _ _ _ _ _ 4 [(0, .ref h), (1, .int (iI (j : Int))), (2, .int (iI (i : Int)))] [] [(h, ob 7 [.ref hb, .ref ha, .ref hc, .int (iI (n : Int)), .int (iI sg)]), (ha, ia E 2002 fa), (hc, ia E 2002 fc)]
    refine x_iload_n (pc' := 5) C 2 dX7_firstPlan_4 rfl rfl ?_
    refine x_aload_n (pc' := 6) C 0 dX7_firstPlan_5 rfl rfl ?_
    refine x_get (pc' := 9) C dX7_firstPlan_6 rfl ff_X7_26_7 0 rfl rfl ?_
    refine x_icmp_ge (pc' := 12) (tgt := 72) C dX7_firstPlan_9 rfl (by decide) (by omega) (by omega) (fun c9 => ?_) (fun c9 => ?_)
    ·
      refine x_iload_n (pc' := 73) C 1 dX7_firstPlan_72 rfl rfl ?_
      refine x_top (b := .int (iI ((fpl (fun q_ => sg * fa q_) (fun q_ => sg * fc q_) n : Nat) : Int))) (by rw [hb_, show i = n by omega]) ?_
      exact x_iret C hr dX7_firstPlan_73 ⟨rfl, rfl⟩
    ·
      have b1 := sgb hsg (hA i (by omega))
      have b2 := sgb hsg (hA j (by omega))
      have b3 := sgb hsg (hB i (by omega))
      have b4 := sgb hsg (hB j (by omega))
      refine x_aload_n (pc' := 13) C 0 dX7_firstPlan_12 rfl rfl ?_
      refine x_get (pc' := 16) C dX7_firstPlan_13 rfl ff_X7_41_7 0 rfl rfl ?_
      refine x_aload_n (pc' := 17) C 0 dX7_firstPlan_16 rfl rfl ?_
      refine x_get (pc' := 20) C dX7_firstPlan_17 rfl ff_X7_44_7 0 rfl rfl ?_
      refine x_iload_n (pc' := 21) C 2 dX7_firstPlan_20 rfl rfl ?_
      refine x_iald (pc' := 22) C i dX7_firstPlan_21 rfl 1 rfl (by omega) (by omega) (by omega) ?_
      refine x_aload_n (pc' := 23) C 0 dX7_firstPlan_22 rfl rfl ?_
      refine x_get (pc' := 26) C dX7_firstPlan_23 rfl ff_X7_44_7 0 rfl rfl ?_
      refine x_iload_n (pc' := 27) C 1 dX7_firstPlan_26 rfl rfl ?_
      refine x_iald (pc' := 28) C j dX7_firstPlan_27 rfl 1 rfl (by omega) (by omega) (by omega) ?_
      refine x_isub (pc' := 29) C dX7_firstPlan_28 rfl ?_
      refine x_imul (pc' := 30) C dX7_firstPlan_29 rfl ?_
      refine x_top (b := .int (iI ((sg * (fa i)) - (sg * (fa j))))) (by rw [Int.mul_sub]) ?_
      refine x_istore_n (pc' := 31) (lv' := [(3, .int (iI ((sg * (fa i)) - (sg * (fa j))))), (0, .ref h), (1, .int (iI (j : Int))), (2, .int (iI (i : Int)))]) C dX7_firstPlan_30 rfl (by decide) rfl ?_
      refine x_aload_n (pc' := 32) C 1 dX7_firstPlan_31 rfl rfl ?_
      refine x_get (pc' := 35) C dX7_firstPlan_32 rfl ff_X7_41_7 0 rfl rfl ?_
      refine x_aload_n (pc' := 36) C 1 dX7_firstPlan_35 rfl rfl ?_
      refine x_get (pc' := 39) C dX7_firstPlan_36 rfl ff_X7_47_7 0 rfl rfl ?_
      refine x_iload_n (pc' := 40) C 3 dX7_firstPlan_39 rfl rfl ?_
      refine x_iald (pc' := 41) C i dX7_firstPlan_40 rfl 2 rfl (by omega) (by omega) (by omega) ?_
      refine x_aload_n (pc' := 42) C 1 dX7_firstPlan_41 rfl rfl ?_
      refine x_get (pc' := 45) C dX7_firstPlan_42 rfl ff_X7_47_7 0 rfl rfl ?_
      refine x_iload_n (pc' := 46) C 2 dX7_firstPlan_45 rfl rfl ?_
      refine x_iald (pc' := 47) C j dX7_firstPlan_46 rfl 2 rfl (by omega) (by omega) (by omega) ?_
      refine x_isub (pc' := 48) C dX7_firstPlan_47 rfl ?_
      refine x_imul (pc' := 49) C dX7_firstPlan_48 rfl ?_
      refine x_top (b := .int (iI ((sg * (fc i)) - (sg * (fc j))))) (by rw [Int.mul_sub]) ?_
      refine x_istore (pc' := 51) (lv' := [(4, .int (iI ((sg * (fc i)) - (sg * (fc j))))), (3, .int (iI ((sg * (fa i)) - (sg * (fa j))))), (0, .ref h), (1, .int (iI (j : Int))), (2, .int (iI (i : Int)))]) C dX7_firstPlan_49 rfl (by decide) rfl ?_
      refine x_iload_n (pc' := 52) C 1 dX7_firstPlan_51 rfl rfl ?_
      refine x_if_lt (pc' := 55) (tgt := 64) C dX7_firstPlan_52 rfl (by decide) (by omega) (fun c52 => ?_) (fun c52 => ?_)
      ·
        refine x_iload_n (pc' := 65) C 4 dX7_firstPlan_64 rfl rfl ?_
        refine x_istore_n (pc' := 66) (lv' := [(1, .int (iI (i : Int))), (4, .int (iI ((sg * (fc i)) - (sg * (fc j))))), (3, .int (iI ((sg * (fa i)) - (sg * (fa j))))), (0, .ref h), (2, .int (iI (i : Int)))]) C dX7_firstPlan_65 rfl (by decide) rfl ?_
        refine x_iinc (pc' := 69) (lv' := [(2, .int (iI ((i : Int) + 1))), (1, .int (iI (i : Int))), (4, .int (iI ((sg * (fc i)) - (sg * (fc j))))), (3, .int (iI ((sg * (fa i)) - (sg * (fa j))))), (0, .ref h)]) C 4 dX7_firstPlan_66 rfl (by decide) rfl rfl ?_
        refine x_lvI (lv' := [(2, .int (iI ((i + 1 : Nat) : Int))), (1, .int (iI (i : Int))), (4, .int (iI ((sg * (fc i)) - (sg * (fc j))))), (3, .int (iI ((sg * (fa i)) - (sg * (fa j))))), (0, .ref h)]) 0 rfl (by omega) rfl ?_
        refine x_goto (tgt := 4) C dX7_firstPlan_69 (by decide) ?_
        refine x_lv [4, 1, 0] rfl ?_
        exact ih4 ((i + 1), i) ⟨(show 1 ≤ (i + 1) ∧ (i + 1) ≤ n from by omega), (show i < n from by omega), (show i = fpl (fun q_ => sg * fa q_) (fun q_ => sg * fc q_) (i + 1) from by first | exact fpl_step hb_ (by show sg * fa i < sg * fa j ∨ (sg * fa i = sg * fa j ∧ sg * fc i < sg * fc j); omega) | exact fpl_stay hb_ (by show ¬ (sg * fa i < sg * fa j ∨ (sg * fa i = sg * fa j ∧ sg * fc i < sg * fc j)); omega))⟩ (show n - (i + 1) < n - i from by omega)
      ·
        refine x_iload_n (pc' := 56) C 1 dX7_firstPlan_55 rfl rfl ?_
        refine x_if_ne (pc' := 59) (tgt := 66) C dX7_firstPlan_56 rfl (by decide) (by omega) (fun c56 => ?_) (fun c56 => ?_)
        ·
          refine x_iinc (pc' := 69) (lv' := [(2, .int (iI ((i : Int) + 1))), (4, .int (iI ((sg * (fc i)) - (sg * (fc j))))), (3, .int (iI ((sg * (fa i)) - (sg * (fa j))))), (0, .ref h), (1, .int (iI (j : Int)))]) C 4 dX7_firstPlan_66 rfl (by decide) rfl rfl ?_
          refine x_lvI (lv' := [(2, .int (iI ((i + 1 : Nat) : Int))), (4, .int (iI ((sg * (fc i)) - (sg * (fc j))))), (3, .int (iI ((sg * (fa i)) - (sg * (fa j))))), (0, .ref h), (1, .int (iI (j : Int)))]) 0 rfl (by omega) rfl ?_
          refine x_goto (tgt := 4) C dX7_firstPlan_69 (by decide) ?_
          refine x_lv [3, 4, 0] rfl ?_
          exact ih4 ((i + 1), j) ⟨(show 1 ≤ (i + 1) ∧ (i + 1) ≤ n from by omega), (show j < n from by omega), (show j = fpl (fun q_ => sg * fa q_) (fun q_ => sg * fc q_) (i + 1) from by first | exact fpl_step hb_ (by show sg * fa i < sg * fa j ∨ (sg * fa i = sg * fa j ∧ sg * fc i < sg * fc j); omega) | exact fpl_stay hb_ (by show ¬ (sg * fa i < sg * fa j ∨ (sg * fa i = sg * fa j ∧ sg * fc i < sg * fc j)); omega))⟩ (show n - (i + 1) < n - i from by omega)
        ·
          refine x_iload (pc' := 61) C 0 dX7_firstPlan_59 rfl rfl ?_
          refine x_if_ge (pc' := 64) (tgt := 66) C dX7_firstPlan_61 rfl (by decide) (by omega) (fun c61 => ?_) (fun c61 => ?_)
          ·
            refine x_iinc (pc' := 69) (lv' := [(2, .int (iI ((i : Int) + 1))), (4, .int (iI ((sg * (fc i)) - (sg * (fc j))))), (3, .int (iI ((sg * (fa i)) - (sg * (fa j))))), (0, .ref h), (1, .int (iI (j : Int)))]) C 4 dX7_firstPlan_66 rfl (by decide) rfl rfl ?_
            refine x_lvI (lv' := [(2, .int (iI ((i + 1 : Nat) : Int))), (4, .int (iI ((sg * (fc i)) - (sg * (fc j))))), (3, .int (iI ((sg * (fa i)) - (sg * (fa j))))), (0, .ref h), (1, .int (iI (j : Int)))]) 0 rfl (by omega) rfl ?_
            refine x_goto (tgt := 4) C dX7_firstPlan_69 (by decide) ?_
            refine x_lv [3, 4, 0] rfl ?_
            exact ih4 ((i + 1), j) ⟨(show 1 ≤ (i + 1) ∧ (i + 1) ≤ n from by omega), (show j < n from by omega), (show j = fpl (fun q_ => sg * fa q_) (fun q_ => sg * fc q_) (i + 1) from by first | exact fpl_step hb_ (by show sg * fa i < sg * fa j ∨ (sg * fa i = sg * fa j ∧ sg * fc i < sg * fc j); omega) | exact fpl_stay hb_ (by show ¬ (sg * fa i < sg * fa j ∨ (sg * fa i = sg * fa j ∧ sg * fc i < sg * fc j)); omega))⟩ (show n - (i + 1) < n - i from by omega)
          ·
            refine x_iload_n (pc' := 65) C 4 dX7_firstPlan_64 rfl rfl ?_
            refine x_istore_n (pc' := 66) (lv' := [(1, .int (iI (i : Int))), (4, .int (iI ((sg * (fc i)) - (sg * (fc j))))), (3, .int (iI ((sg * (fa i)) - (sg * (fa j))))), (0, .ref h), (2, .int (iI (i : Int)))]) C dX7_firstPlan_65 rfl (by decide) rfl ?_
            refine x_iinc (pc' := 69) (lv' := [(2, .int (iI ((i : Int) + 1))), (1, .int (iI (i : Int))), (4, .int (iI ((sg * (fc i)) - (sg * (fc j))))), (3, .int (iI ((sg * (fa i)) - (sg * (fa j))))), (0, .ref h)]) C 4 dX7_firstPlan_66 rfl (by decide) rfl rfl ?_
            refine x_lvI (lv' := [(2, .int (iI ((i + 1 : Nat) : Int))), (1, .int (iI (i : Int))), (4, .int (iI ((sg * (fc i)) - (sg * (fc j))))), (3, .int (iI ((sg * (fa i)) - (sg * (fa j))))), (0, .ref h)]) 0 rfl (by omega) rfl ?_
            refine x_goto (tgt := 4) C dX7_firstPlan_69 (by decide) ?_
            refine x_lv [4, 1, 0] rfl ?_
            exact ih4 ((i + 1), i) ⟨(show 1 ≤ (i + 1) ∧ (i + 1) ≤ n from by omega), (show i < n from by omega), (show i = fpl (fun q_ => sg * fa q_) (fun q_ => sg * fc q_) (i + 1) from by first | exact fpl_step hb_ (by show sg * fa i < sg * fa j ∨ (sg * fa i = sg * fa j ∧ sg * fc i < sg * fc j); omega) | exact fpl_stay hb_ (by show ¬ (sg * fa i < sg * fa j ∨ (sg * fa i = sg * fa j ∧ sg * fc i < sg * fc j)); omega))⟩ (show n - (i + 1) < n - i from by omega)
  · exact ⟨(show 1 ≤ 1 ∧ 1 ≤ n from by omega), (show 0 < n from by omega), (show 0 = fpl (fun q_ => sg * fa q_) (fun q_ => sg * fc q_) 1 from (fpl_1 _ _).symm)⟩

set_option maxHeartbeats 4000000 in
set_option maxRecDepth 100000 in
theorem c_X7_nextPlan (l : Launch) (E : EV) (h : Nat) (hb : Nat) (ha : Nat) (hc : Nat) (n : Nat) (sg : Int) (fa : Nat → Int) (fc : Nat → Int) (g : Nat) (gp : Nat) (gA : Nat) (gB : Nat) (c : Nat) (fA : Nat → Int) (fB : Nat → Int) (w : Nat) (T : Int) (hn : n ≤ 2002) (h0 : 0 < n) (hA : ∀ j_ : Nat, j_ < n → -1600 ≤ fa j_ ∧ fa j_ ≤ 1600) (hB : ∀ j_ : Nat, j_ < n → -1600 ≤ fc j_ ∧ fc j_ ≤ 1600) (hsg : sg = 1 ∨ sg = -1) (hw : w < n) (hT : 1 ≤ T ∧ T ≤ 100) (hcc : c < 141) : MC l E yX7_nextPlan cX7_nextPlan 16 (some .int) ({ frames := 1, cells := 0, slots := 0, locals := 25 }) [.ref g, .ref h, .int (iI (w : Int)), .int (iI T)] [(h, ob 7 [.ref hb, .ref ha, .ref hc, .int (iI (n : Int)), .int (iI sg)]), (ha, ia E 2002 fa), (hc, ia E 2002 fc), (g, ob 6 [.ref gp, .ref gA, .ref gB, .int (iI (c : Int))]), (gA, la E 141 fA), (gB, la E 141 fB)] (fun v_ w_ => ∃ (r : Int) (y2 : Int) (z2 : Int) (fA2 : Nat → Int) (fB2 : Nat → Int), v_ = some (.int (iI r)) ∧ w_ = [(h, ob 7 [.ref hb, .ref ha, .ref hc, .int (iI (n : Int)), .int (iI sg)]), (ha, ia E 2002 fa), (hc, ia E 2002 fc), (g, ob 6 [.ref gp, .ref gA, .ref gB, .int (iI (c : Int))]), (gA, la E 141 fA2), (gB, la E 141 fB2)] ∧ ((r, y2, z2) = nxs (fun q_ => (sg * fa q_) - (sg * fa w)) (fun q_ => (sg * fc w) - (sg * fc q_)) T n) ∧ ((r = -1 ∧ fA2 = fA ∧ fB2 = fB) ∨ (r ≠ -1 ∧ fA2 = va_up fA c y2 ∧ fB2 = va_up fB c z2))) := by
  refine MC.of (by decide +kernel) (Nat.le_of_ble_eq_true rfl) ?_
  intro p_ e_ s_ m_ args_ below_ meth_ c_ A_ C hr hnm
  have C : Cx p_ s_ m_ args_ meth_ c_ E A_ 16 cX7_nextPlan RX7 := C
  show Wx _ _ _ _ _ _ _ _ _ _ _ _ _ _ _ _ 0 [(0, .ref g), (1, .ref h), (2, .int (iI (w : Int))), (3, .int (iI T))] [] [(h, ob 7 [.ref hb, .ref ha, .ref hc, .int (iI (n : Int)), .int (iI sg)]), (ha, ia E 2002 fa), (hc, ia E 2002 fc), (g, ob 6 [.ref gp, .ref gA, .ref gB, .int (iI (c : Int))]), (gA, la E 141 fA), (gB, la E 141 fB)]
  refine x_iconst (pc' := 1) C dX7_nextPlan_0 rfl ?_
  refine x_istore (pc' := 3) (lv' := [(4, .int (iI (-1))), (0, .ref g), (1, .ref h), (2, .int (iI (w : Int))), (3, .int (iI T))]) C dX7_nextPlan_1 rfl (by decide) rfl ?_
  refine x_iload_n (pc' := 4) C 4 dX7_nextPlan_3 rfl rfl ?_
  refine x_i2l (pc' := 5) C dX7_nextPlan_4 rfl (by omega) ?_
  refine x_lstore (pc' := 7) (lv' := [(5, .long (lI T)), (4, .int (iI (-1))), (0, .ref g), (1, .ref h), (2, .int (iI (w : Int))), (3, .int (iI T))]) C dX7_nextPlan_5 rfl (by decide) rfl ?_
  refine x_lconst (pc' := 8) (z := 1) C dX7_nextPlan_7 rfl rfl ?_
  refine x_lstore (pc' := 10) (lv' := [(7, .long (lI 1)), (5, .long (lI T)), (4, .int (iI (-1))), (0, .ref g), (1, .ref h), (2, .int (iI (w : Int))), (3, .int (iI T))]) C dX7_nextPlan_8 rfl (by decide) rfl ?_
  refine x_iconst (pc' := 11) C dX7_nextPlan_10 rfl ?_
  refine x_istore (pc' := 13) (lv' := [(9, .int (iI 0)), (7, .long (lI 1)), (5, .long (lI T)), (4, .int (iI (-1))), (0, .ref g), (1, .ref h), (2, .int (iI (w : Int))), (3, .int (iI T))]) C dX7_nextPlan_11 rfl (by decide) rfl ?_
  refine x_lv [4, 5, 6, 7, 3, 2, 1, 0] rfl ?_
  refine x_loop (α := (Nat) × (Int) × (Int) × (Int)) (fun a_ => (a_.1 ≤ n) ∧ (-1 ≤ a_.2.1 ∧ a_.2.1 ≤ 3000) ∧ (-3200 ≤ a_.2.2.1 ∧ a_.2.2.1 ≤ 3200) ∧ (1 ≤ a_.2.2.2 ∧ a_.2.2.2 ≤ 3200) ∧ ((a_.2.1, a_.2.2.1, a_.2.2.2) = nxs (fun q_ => (sg * fa q_) - (sg * fa w)) (fun q_ => (sg * fc w) - (sg * fc q_)) T a_.1)) (fun a_ => n - a_.1) (fun a_ => [(0, .ref g), (1, .ref h), (2, .int (iI (w : Int))), (3, .int (iI T)), (4, .int (iI a_.2.1)), (5, .long (lI a_.2.2.1)), (7, .long (lI a_.2.2.2)), (9, .int (iI (a_.1 : Int)))]) (fun a_ => [(h, ob 7 [.ref hb, .ref ha, .ref hc, .int (iI (n : Int)), .int (iI sg)]), (ha, ia E 2002 fa), (hc, ia E 2002 fc), (g, ob 6 [.ref gp, .ref gA, .ref gB, .int (iI (c : Int))]), (gA, la E 141 fA), (gB, la E 141 fB)]) ?_ (0, (-1), T, 1) ?_
  · intro a_ hI_ ih13
    obtain ⟨i, x, y, z⟩ := a_
    obtain ⟨hi, hx, hy, hz, he⟩ := hI_
    replace hi : i ≤ n := hi
    replace hx : -1 ≤ x ∧ x ≤ 3000 := hx
    replace hy : -3200 ≤ y ∧ y ≤ 3200 := hy
    replace hz : 1 ≤ z ∧ z ≤ 3200 := hz
    replace he : (x, y, z) = nxs (fun q_ => (sg * fa q_) - (sg * fa w)) (fun q_ => (sg * fc w) - (sg * fc q_)) T i := he
    show Wx _ _ _ _ _ _ _ _ _ _ _ _ _ _ _ _ 13 [(0, .ref g), (1, .ref h), (2, .int (iI (w : Int))), (3, .int (iI T)), (4, .int (iI x)), (5, .long (lI y)), (7, .long (lI z)), (9, .int (iI (i : Int)))] [] [(h, ob 7 [.ref hb, .ref ha, .ref hc, .int (iI (n : Int)), .int (iI sg)]), (ha, ia E 2002 fa), (hc, ia E 2002 fc), (g, ob 6 [.ref gp, .ref gA, .ref gB, .int (iI (c : Int))]), (gA, la E 141 fA), (gB, la E 141 fB)]
    refine x_iload (pc' := 15) C 7 dX7_nextPlan_13 rfl rfl ?_
    refine x_aload_n (pc' := 16) C 1 dX7_nextPlan_15 rfl rfl ?_
    refine x_get (pc' := 19) C dX7_nextPlan_16 rfl ff_X7_26_7 0 rfl rfl ?_
    refine x_icmp_ge (pc' := 22) (tgt := 138) C dX7_nextPlan_19 rfl (by decide) (by omega) (by omega) (fun c19 => ?_) (fun c19 => ?_)
    ·
      refine x_iload (pc' := 140) C 4 dX7_nextPlan_138 rfl rfl ?_
      refine x_iconst (pc' := 141) C dX7_nextPlan_140 rfl ?_
      refine x_icmp_eq (pc' := 144) (tgt := 156) C dX7_nextPlan_141 rfl (by decide) (by omega) (by omega) (fun c141 => ?_) (fun c141 => ?_)
      ·
        refine x_iload (pc' := 158) C 4 dX7_nextPlan_156 rfl rfl ?_
        exact x_iret C hr dX7_nextPlan_158 ⟨x, y, z, fA, fB, rfl, rfl, (show (x, y, z) = nxs (fun q_ => (sg * fa q_) - (sg * fa w)) (fun q_ => (sg * fc w) - (sg * fc q_)) T n from by rw [he, show i = n by omega]), (show (x = -1 ∧ fA = fA ∧ fB = fB) ∨ (x ≠ -1 ∧ fA = va_up fA c y ∧ fB = va_up fB c z) from by first | exact Or.inl ⟨c141, rfl, rfl⟩ | exact Or.inr ⟨c141, rfl, rfl⟩)⟩
      ·
        refine x_aload_n (pc' := 145) C 0 dX7_nextPlan_144 rfl rfl ?_
        refine x_aload_n (pc' := 146) C 0 dX7_nextPlan_145 rfl rfl ?_
        refine x_get (pc' := 149) C dX7_nextPlan_146 rfl ff_X7_22_6 3 rfl rfl ?_
        refine x_lload (pc' := 151) C 5 dX7_nextPlan_149 rfl rfl ?_
        refine x_lload (pc' := 153) C 6 dX7_nextPlan_151 rfl rfl ?_
        refine x_callV (pc' := 156) (As := [.int (iI (c : Int)), .long (lI y), .long (lI z)]) (rest := []) (q0 := 0) C rfl rfl cv_X7_29_X7 dX7_nextPlan_153 rfl (c_X7_setEnd l E g gp gA gB c c fA fB y z (show c < 141 from by omega)) mm_X7_setEnd (hstk := rfl) (hlen := rfl) (hcat := Nat.le_of_ble_eq_true rfl) (isC := [3, 4, 5]) (isR := [0, 1, 2]) (wr := [(h, ob 7 [.ref hb, .ref ha, .ref hc, .int (iI (n : Int)), .int (iI sg)]), (ha, ia E 2002 fa), (hc, ia E 2002 fc)]) (hC := rfl) (hR := rfl) (hnC := rfl) (hn := rfl) (hdis := by decide) (hR1 := ⟨Nat.le_of_ble_eq_true rfl, Nat.le_of_ble_eq_true rfl⟩) (hcs := ⟨Nat.le_of_ble_eq_true rfl, Nat.le_of_ble_eq_true rfl⟩) (fun v_ w_ hp_ => ?_)
        obtain ⟨rfl, rfl⟩ := hp_
        show Wx _ _ _ _ _ _ _ _ _ _ _ _ _ _ _ _ 156 [(0, .ref g), (1, .ref h), (2, .int (iI (w : Int))), (3, .int (iI T)), (4, .int (iI x)), (5, .long (lI y)), (7, .long (lI z)), (9, .int (iI (i : Int)))] [] [(h, ob 7 [.ref hb, .ref ha, .ref hc, .int (iI (n : Int)), .int (iI sg)]), (ha, ia E 2002 fa), (hc, ia E 2002 fc), (g, ob 6 [.ref gp, .ref gA, .ref gB, .int (iI (c : Int))]), (gA, la E 141 (va_up fA c y)), (gB, la E 141 (va_up fB c z))]
        refine x_iload (pc' := 158) C 4 dX7_nextPlan_156 rfl rfl ?_
        exact x_iret C hr dX7_nextPlan_158 ⟨x, y, z, (va_up fA c y), (va_up fB c z), rfl, rfl, (show (x, y, z) = nxs (fun q_ => (sg * fa q_) - (sg * fa w)) (fun q_ => (sg * fc w) - (sg * fc q_)) T n from by rw [he, show i = n by omega]), (show (x = -1 ∧ (va_up fA c y) = fA ∧ (va_up fB c z) = fB) ∨ (x ≠ -1 ∧ (va_up fA c y) = va_up fA c y ∧ (va_up fB c z) = va_up fB c z) from by first | exact Or.inl ⟨c141, rfl, rfl⟩ | exact Or.inr ⟨c141, rfl, rfl⟩)⟩
    ·
      have b1 := sgb hsg (hA i (by omega))
      have b2 := sgb hsg (hA w (by omega))
      have b3 := sgb hsg (hB i (by omega))
      have b4 := sgb hsg (hB w (by omega))
      have m1 := mulb (x := (sg * fa i) - (sg * fa w)) (y := z) (a := 3200) (b := 3200) (by omega) (by omega)
      refine x_aload_n (pc' := 23) C 1 dX7_nextPlan_22 rfl rfl ?_
      refine x_get (pc' := 26) C dX7_nextPlan_23 rfl ff_X7_41_7 0 rfl rfl ?_
      refine x_aload_n (pc' := 27) C 1 dX7_nextPlan_26 rfl rfl ?_
      refine x_get (pc' := 30) C dX7_nextPlan_27 rfl ff_X7_47_7 0 rfl rfl ?_
      refine x_iload_n (pc' := 31) C 2 dX7_nextPlan_30 rfl rfl ?_
      refine x_iald (pc' := 32) C w dX7_nextPlan_31 rfl 2 rfl (by omega) (by omega) (by omega) ?_
      refine x_aload_n (pc' := 33) C 1 dX7_nextPlan_32 rfl rfl ?_
      refine x_get (pc' := 36) C dX7_nextPlan_33 rfl ff_X7_47_7 0 rfl rfl ?_
      refine x_iload (pc' := 38) C 7 dX7_nextPlan_36 rfl rfl ?_
      refine x_iald (pc' := 39) C i dX7_nextPlan_38 rfl 2 rfl (by omega) (by omega) (by omega) ?_
      refine x_isub (pc' := 40) C dX7_nextPlan_39 rfl ?_
      refine x_imul (pc' := 41) C dX7_nextPlan_40 rfl ?_
      refine x_top (b := .int (iI ((sg * (fc w)) - (sg * (fc i))))) (by rw [Int.mul_sub]) ?_
      refine x_i2l (pc' := 42) C dX7_nextPlan_41 rfl (by omega) ?_
      refine x_lstore (pc' := 44) (lv' := [(10, .long (lI ((sg * (fc w)) - (sg * (fc i))))), (0, .ref g), (1, .ref h), (2, .int (iI (w : Int))), (3, .int (iI T)), (4, .int (iI x)), (5, .long (lI y)), (7, .long (lI z)), (9, .int (iI (i : Int)))]) C dX7_nextPlan_42 rfl (by decide) rfl ?_
      refine x_lload (pc' := 46) C 0 dX7_nextPlan_44 rfl rfl ?_
      refine x_lconst (pc' := 47) (z := 0) C dX7_nextPlan_46 rfl rfl ?_
      refine x_lcmp_gt (pc' := 51) (tgt := 54) C dX7_nextPlan_47 (pc1 := 48) rfl dX7_nextPlan_48 rfl (by decide) (by omega) (by omega) (fun c47 => ?_) (fun c47 => ?_)
      ·
        refine x_aload_n (pc' := 55) C 2 dX7_nextPlan_54 rfl rfl ?_
        refine x_get (pc' := 58) C dX7_nextPlan_55 rfl ff_X7_41_7 0 rfl rfl ?_
        refine x_aload_n (pc' := 59) C 2 dX7_nextPlan_58 rfl rfl ?_
        refine x_get (pc' := 62) C dX7_nextPlan_59 rfl ff_X7_44_7 0 rfl rfl ?_
        refine x_iload (pc' := 64) C 8 dX7_nextPlan_62 rfl rfl ?_
        refine x_iald (pc' := 65) C i dX7_nextPlan_64 rfl 1 rfl (by omega) (by omega) (by omega) ?_
        refine x_aload_n (pc' := 66) C 2 dX7_nextPlan_65 rfl rfl ?_
        refine x_get (pc' := 69) C dX7_nextPlan_66 rfl ff_X7_44_7 0 rfl rfl ?_
        refine x_iload_n (pc' := 70) C 3 dX7_nextPlan_69 rfl rfl ?_
        refine x_iald (pc' := 71) C w dX7_nextPlan_70 rfl 1 rfl (by omega) (by omega) (by omega) ?_
        refine x_isub (pc' := 72) C dX7_nextPlan_71 rfl ?_
        refine x_imul (pc' := 73) C dX7_nextPlan_72 rfl ?_
        refine x_top (b := .int (iI ((sg * (fa i)) - (sg * (fa w))))) (by rw [Int.mul_sub]) ?_
        refine x_i2l (pc' := 74) C dX7_nextPlan_73 rfl (by omega) ?_
        refine x_lstore (pc' := 76) (lv' := [(12, .long (lI ((sg * (fa i)) - (sg * (fa w))))), (10, .long (lI ((sg * (fc w)) - (sg * (fc i))))), (0, .ref g), (1, .ref h), (2, .int (iI (w : Int))), (3, .int (iI T)), (4, .int (iI x)), (5, .long (lI y)), (7, .long (lI z)), (9, .int (iI (i : Int)))]) C dX7_nextPlan_74 rfl (by decide) rfl ?_
        have m2 := mulb (x := y) (y := (sg * fc w) - (sg * fc i)) (a := 3200) (b := 3200) (by omega) (by omega)
        refine x_lload (pc' := 78) C 0 dX7_nextPlan_76 rfl rfl ?_
        refine x_lload (pc' := 80) C 8 dX7_nextPlan_78 rfl rfl ?_
        refine x_lmul (pc' := 81) C dX7_nextPlan_80 rfl ?_
        refine x_lload (pc' := 83) C 7 dX7_nextPlan_81 rfl rfl ?_
        refine x_lload (pc' := 85) C 1 dX7_nextPlan_83 rfl rfl ?_
        refine x_lmul (pc' := 86) C dX7_nextPlan_85 rfl ?_
        refine x_lsub (pc' := 87) C dX7_nextPlan_86 rfl ?_
        refine x_lstore (pc' := 89) (lv' := [(14, .long (lI ((((sg * (fa i)) - (sg * (fa w))) * z) - (y * ((sg * (fc w)) - (sg * (fc i))))))), (12, .long (lI ((sg * (fa i)) - (sg * (fa w))))), (10, .long (lI ((sg * (fc w)) - (sg * (fc i))))), (0, .ref g), (1, .ref h), (2, .int (iI (w : Int))), (3, .int (iI T)), (4, .int (iI x)), (5, .long (lI y)), (7, .long (lI z)), (9, .int (iI (i : Int)))]) C dX7_nextPlan_87 rfl (by decide) rfl ?_
        refine x_lload (pc' := 91) C 0 dX7_nextPlan_89 rfl rfl ?_
        refine x_lconst (pc' := 92) (z := 0) C dX7_nextPlan_91 rfl rfl ?_
        refine x_lcmp_gt (pc' := 96) (tgt := 132) C dX7_nextPlan_92 (pc1 := 93) rfl dX7_nextPlan_93 rfl (by decide) (by omega) (by omega) (fun c92 => ?_) (fun c92 => ?_)
        ·
          refine x_iinc (pc' := 135) (lv' := [(9, .int (iI ((i : Int) + 1))), (14, .long (lI ((((sg * (fa i)) - (sg * (fa w))) * z) - (y * ((sg * (fc w)) - (sg * (fc i))))))), (12, .long (lI ((sg * (fa i)) - (sg * (fa w))))), (10, .long (lI ((sg * (fc w)) - (sg * (fc i))))), (0, .ref g), (1, .ref h), (2, .int (iI (w : Int))), (3, .int (iI T)), (4, .int (iI x)), (5, .long (lI y)), (7, .long (lI z))]) C 10 dX7_nextPlan_132 rfl (by decide) rfl rfl ?_
          refine x_lvI (lv' := [(9, .int (iI ((i + 1 : Nat) : Int))), (14, .long (lI ((((sg * (fa i)) - (sg * (fa w))) * z) - (y * ((sg * (fc w)) - (sg * (fc i))))))), (12, .long (lI ((sg * (fa i)) - (sg * (fa w))))), (10, .long (lI ((sg * (fc w)) - (sg * (fc i))))), (0, .ref g), (1, .ref h), (2, .int (iI (w : Int))), (3, .int (iI T)), (4, .int (iI x)), (5, .long (lI y)), (7, .long (lI z))]) 0 rfl (by omega) rfl ?_
          refine x_goto (tgt := 13) C dX7_nextPlan_135 (by decide) ?_
          refine x_lv [4, 5, 6, 7, 8, 9, 10, 0] rfl ?_
          exact ih13 ((i + 1), x, y, z) ⟨(show (i + 1) ≤ n from by omega), (show -1 ≤ x ∧ x ≤ 3000 from by omega), (show -3200 ≤ y ∧ y ≤ 3200 from by omega), (show 1 ≤ z ∧ z ≤ 3200 from by omega), (show (x, y, z) = nxs (fun q_ => (sg * fa q_) - (sg * fa w)) (fun q_ => (sg * fc w) - (sg * fc q_)) T (i + 1) from by first | exact nxs_step he (show 0 < (sg * fc w) - (sg * fc i) ∧ (((sg * fa i) - (sg * fa w)) * z - y * ((sg * fc w) - (sg * fc i)) < 0 ∨ (((sg * fa i) - (sg * fa w)) * z - y * ((sg * fc w) - (sg * fc i)) = 0 ∧ x ≠ -1 ∧ z < (sg * fc w) - (sg * fc i))) by omega) | exact nxs_stay he (show ¬ (0 < (sg * fc w) - (sg * fc i) ∧ (((sg * fa i) - (sg * fa w)) * z - y * ((sg * fc w) - (sg * fc i)) < 0 ∨ (((sg * fa i) - (sg * fa w)) * z - y * ((sg * fc w) - (sg * fc i)) = 0 ∧ x ≠ -1 ∧ z < (sg * fc w) - (sg * fc i)))) by omega))⟩ (show n - (i + 1) < n - i from by omega)
        ·
          refine x_lload (pc' := 98) C 0 dX7_nextPlan_96 rfl rfl ?_
          refine x_lconst (pc' := 99) (z := 0) C dX7_nextPlan_98 rfl rfl ?_
          refine x_lcmp_ne (pc' := 103) (tgt := 120) C dX7_nextPlan_99 (pc1 := 100) rfl dX7_nextPlan_100 rfl (by decide) (by omega) (by omega) (fun c99 => ?_) (fun c99 => ?_)
          ·
            refine x_iload (pc' := 122) C 10 dX7_nextPlan_120 rfl rfl ?_
            refine x_istore (pc' := 124) (lv' := [(4, .int (iI (i : Int))), (14, .long (lI ((((sg * (fa i)) - (sg * (fa w))) * z) - (y * ((sg * (fc w)) - (sg * (fc i))))))), (12, .long (lI ((sg * (fa i)) - (sg * (fa w))))), (10, .long (lI ((sg * (fc w)) - (sg * (fc i))))), (0, .ref g), (1, .ref h), (2, .int (iI (w : Int))), (3, .int (iI T)), (5, .long (lI y)), (7, .long (lI z)), (9, .int (iI (i : Int)))]) C dX7_nextPlan_122 rfl (by decide) rfl ?_
            refine x_lload (pc' := 126) C 2 dX7_nextPlan_124 rfl rfl ?_
            refine x_lstore (pc' := 128) (lv' := [(5, .long (lI ((sg * (fa i)) - (sg * (fa w))))), (4, .int (iI (i : Int))), (14, .long (lI ((((sg * (fa i)) - (sg * (fa w))) * z) - (y * ((sg * (fc w)) - (sg * (fc i))))))), (12, .long (lI ((sg * (fa i)) - (sg * (fa w))))), (10, .long (lI ((sg * (fc w)) - (sg * (fc i))))), (0, .ref g), (1, .ref h), (2, .int (iI (w : Int))), (3, .int (iI T)), (7, .long (lI z)), (9, .int (iI (i : Int)))]) C dX7_nextPlan_126 rfl (by decide) rfl ?_
            refine x_lload (pc' := 130) C 4 dX7_nextPlan_128 rfl rfl ?_
            refine x_lstore (pc' := 132) (lv' := [(7, .long (lI ((sg * (fc w)) - (sg * (fc i))))), (5, .long (lI ((sg * (fa i)) - (sg * (fa w))))), (4, .int (iI (i : Int))), (14, .long (lI ((((sg * (fa i)) - (sg * (fa w))) * z) - (y * ((sg * (fc w)) - (sg * (fc i))))))), (12, .long (lI ((sg * (fa i)) - (sg * (fa w))))), (10, .long (lI ((sg * (fc w)) - (sg * (fc i))))), (0, .ref g), (1, .ref h), (2, .int (iI (w : Int))), (3, .int (iI T)), (9, .int (iI (i : Int)))]) C dX7_nextPlan_130 rfl (by decide) rfl ?_
            refine x_iinc (pc' := 135) (lv' := [(9, .int (iI ((i : Int) + 1))), (7, .long (lI ((sg * (fc w)) - (sg * (fc i))))), (5, .long (lI ((sg * (fa i)) - (sg * (fa w))))), (4, .int (iI (i : Int))), (14, .long (lI ((((sg * (fa i)) - (sg * (fa w))) * z) - (y * ((sg * (fc w)) - (sg * (fc i))))))), (12, .long (lI ((sg * (fa i)) - (sg * (fa w))))), (10, .long (lI ((sg * (fc w)) - (sg * (fc i))))), (0, .ref g), (1, .ref h), (2, .int (iI (w : Int))), (3, .int (iI T))]) C 10 dX7_nextPlan_132 rfl (by decide) rfl rfl ?_
            refine x_lvI (lv' := [(9, .int (iI ((i + 1 : Nat) : Int))), (7, .long (lI ((sg * (fc w)) - (sg * (fc i))))), (5, .long (lI ((sg * (fa i)) - (sg * (fa w))))), (4, .int (iI (i : Int))), (14, .long (lI ((((sg * (fa i)) - (sg * (fa w))) * z) - (y * ((sg * (fc w)) - (sg * (fc i))))))), (12, .long (lI ((sg * (fa i)) - (sg * (fa w))))), (10, .long (lI ((sg * (fc w)) - (sg * (fc i))))), (0, .ref g), (1, .ref h), (2, .int (iI (w : Int))), (3, .int (iI T))]) 0 rfl (by omega) rfl ?_
            refine x_goto (tgt := 13) C dX7_nextPlan_135 (by decide) ?_
            refine x_lv [7, 8, 9, 10, 3, 2, 1, 0] rfl ?_
            exact ih13 ((i + 1), (i : Int), ((sg * (fa i)) - (sg * (fa w))), ((sg * (fc w)) - (sg * (fc i)))) ⟨(show (i + 1) ≤ n from by omega), (show -1 ≤ (i : Int) ∧ (i : Int) ≤ 3000 from by omega), (show -3200 ≤ ((sg * (fa i)) - (sg * (fa w))) ∧ ((sg * (fa i)) - (sg * (fa w))) ≤ 3200 from by omega), (show 1 ≤ ((sg * (fc w)) - (sg * (fc i))) ∧ ((sg * (fc w)) - (sg * (fc i))) ≤ 3200 from by omega), (show ((i : Int), ((sg * (fa i)) - (sg * (fa w))), ((sg * (fc w)) - (sg * (fc i)))) = nxs (fun q_ => (sg * fa q_) - (sg * fa w)) (fun q_ => (sg * fc w) - (sg * fc q_)) T (i + 1) from by first | exact nxs_step he (show 0 < (sg * fc w) - (sg * fc i) ∧ (((sg * fa i) - (sg * fa w)) * z - y * ((sg * fc w) - (sg * fc i)) < 0 ∨ (((sg * fa i) - (sg * fa w)) * z - y * ((sg * fc w) - (sg * fc i)) = 0 ∧ x ≠ -1 ∧ z < (sg * fc w) - (sg * fc i))) by omega) | exact nxs_stay he (show ¬ (0 < (sg * fc w) - (sg * fc i) ∧ (((sg * fa i) - (sg * fa w)) * z - y * ((sg * fc w) - (sg * fc i)) < 0 ∨ (((sg * fa i) - (sg * fa w)) * z - y * ((sg * fc w) - (sg * fc i)) = 0 ∧ x ≠ -1 ∧ z < (sg * fc w) - (sg * fc i)))) by omega))⟩ (show n - (i + 1) < n - i from by omega)
          ·
            refine x_iload (pc' := 105) C 7 dX7_nextPlan_103 rfl rfl ?_
            refine x_iconst (pc' := 106) C dX7_nextPlan_105 rfl ?_
            refine x_icmp_eq (pc' := 109) (tgt := 132) C dX7_nextPlan_106 rfl (by decide) (by omega) (by omega) (fun c106 => ?_) (fun c106 => ?_)
            ·
              refine x_iinc (pc' := 135) (lv' := [(9, .int (iI ((i : Int) + 1))), (14, .long (lI ((((sg * (fa i)) - (sg * (fa w))) * z) - (y * ((sg * (fc w)) - (sg * (fc i))))))), (12, .long (lI ((sg * (fa i)) - (sg * (fa w))))), (10, .long (lI ((sg * (fc w)) - (sg * (fc i))))), (0, .ref g), (1, .ref h), (2, .int (iI (w : Int))), (3, .int (iI T)), (4, .int (iI x)), (5, .long (lI y)), (7, .long (lI z))]) C 10 dX7_nextPlan_132 rfl (by decide) rfl rfl ?_
              refine x_lvI (lv' := [(9, .int (iI ((i + 1 : Nat) : Int))), (14, .long (lI ((((sg * (fa i)) - (sg * (fa w))) * z) - (y * ((sg * (fc w)) - (sg * (fc i))))))), (12, .long (lI ((sg * (fa i)) - (sg * (fa w))))), (10, .long (lI ((sg * (fc w)) - (sg * (fc i))))), (0, .ref g), (1, .ref h), (2, .int (iI (w : Int))), (3, .int (iI T)), (4, .int (iI x)), (5, .long (lI y)), (7, .long (lI z))]) 0 rfl (by omega) rfl ?_
              refine x_goto (tgt := 13) C dX7_nextPlan_135 (by decide) ?_
              refine x_lv [4, 5, 6, 7, 8, 9, 10, 0] rfl ?_
              exact ih13 ((i + 1), x, y, z) ⟨(show (i + 1) ≤ n from by omega), (show -1 ≤ x ∧ x ≤ 3000 from by omega), (show -3200 ≤ y ∧ y ≤ 3200 from by omega), (show 1 ≤ z ∧ z ≤ 3200 from by omega), (show (x, y, z) = nxs (fun q_ => (sg * fa q_) - (sg * fa w)) (fun q_ => (sg * fc w) - (sg * fc q_)) T (i + 1) from by first | exact nxs_step he (show 0 < (sg * fc w) - (sg * fc i) ∧ (((sg * fa i) - (sg * fa w)) * z - y * ((sg * fc w) - (sg * fc i)) < 0 ∨ (((sg * fa i) - (sg * fa w)) * z - y * ((sg * fc w) - (sg * fc i)) = 0 ∧ x ≠ -1 ∧ z < (sg * fc w) - (sg * fc i))) by omega) | exact nxs_stay he (show ¬ (0 < (sg * fc w) - (sg * fc i) ∧ (((sg * fa i) - (sg * fa w)) * z - y * ((sg * fc w) - (sg * fc i)) < 0 ∨ (((sg * fa i) - (sg * fa w)) * z - y * ((sg * fc w) - (sg * fc i)) = 0 ∧ x ≠ -1 ∧ z < (sg * fc w) - (sg * fc i)))) by omega))⟩ (show n - (i + 1) < n - i from by omega)
            ·
              refine x_lload (pc' := 111) C 2 dX7_nextPlan_109 rfl rfl ?_
              refine x_lload (pc' := 113) C 9 dX7_nextPlan_111 rfl rfl ?_
              refine x_lcmp_gt (pc' := 117) (tgt := 120) C dX7_nextPlan_113 (pc1 := 114) rfl dX7_nextPlan_114 rfl (by decide) (by omega) (by omega) (fun c113 => ?_) (fun c113 => ?_)
              ·
                refine x_iload (pc' := 122) C 10 dX7_nextPlan_120 rfl rfl ?_
                refine x_istore (pc' := 124) (lv' := [(4, .int (iI (i : Int))), (14, .long (lI ((((sg * (fa i)) - (sg * (fa w))) * z) - (y * ((sg * (fc w)) - (sg * (fc i))))))), (12, .long (lI ((sg * (fa i)) - (sg * (fa w))))), (10, .long (lI ((sg * (fc w)) - (sg * (fc i))))), (0, .ref g), (1, .ref h), (2, .int (iI (w : Int))), (3, .int (iI T)), (5, .long (lI y)), (7, .long (lI z)), (9, .int (iI (i : Int)))]) C dX7_nextPlan_122 rfl (by decide) rfl ?_
                refine x_lload (pc' := 126) C 2 dX7_nextPlan_124 rfl rfl ?_
                refine x_lstore (pc' := 128) (lv' := [(5, .long (lI ((sg * (fa i)) - (sg * (fa w))))), (4, .int (iI (i : Int))), (14, .long (lI ((((sg * (fa i)) - (sg * (fa w))) * z) - (y * ((sg * (fc w)) - (sg * (fc i))))))), (12, .long (lI ((sg * (fa i)) - (sg * (fa w))))), (10, .long (lI ((sg * (fc w)) - (sg * (fc i))))), (0, .ref g), (1, .ref h), (2, .int (iI (w : Int))), (3, .int (iI T)), (7, .long (lI z)), (9, .int (iI (i : Int)))]) C dX7_nextPlan_126 rfl (by decide) rfl ?_
                refine x_lload (pc' := 130) C 4 dX7_nextPlan_128 rfl rfl ?_
                refine x_lstore (pc' := 132) (lv' := [(7, .long (lI ((sg * (fc w)) - (sg * (fc i))))), (5, .long (lI ((sg * (fa i)) - (sg * (fa w))))), (4, .int (iI (i : Int))), (14, .long (lI ((((sg * (fa i)) - (sg * (fa w))) * z) - (y * ((sg * (fc w)) - (sg * (fc i))))))), (12, .long (lI ((sg * (fa i)) - (sg * (fa w))))), (10, .long (lI ((sg * (fc w)) - (sg * (fc i))))), (0, .ref g), (1, .ref h), (2, .int (iI (w : Int))), (3, .int (iI T)), (9, .int (iI (i : Int)))]) C dX7_nextPlan_130 rfl (by decide) rfl ?_
                refine x_iinc (pc' := 135) (lv' := [(9, .int (iI ((i : Int) + 1))), (7, .long (lI ((sg * (fc w)) - (sg * (fc i))))), (5, .long (lI ((sg * (fa i)) - (sg * (fa w))))), (4, .int (iI (i : Int))), (14, .long (lI ((((sg * (fa i)) - (sg * (fa w))) * z) - (y * ((sg * (fc w)) - (sg * (fc i))))))), (12, .long (lI ((sg * (fa i)) - (sg * (fa w))))), (10, .long (lI ((sg * (fc w)) - (sg * (fc i))))), (0, .ref g), (1, .ref h), (2, .int (iI (w : Int))), (3, .int (iI T))]) C 10 dX7_nextPlan_132 rfl (by decide) rfl rfl ?_
                refine x_lvI (lv' := [(9, .int (iI ((i + 1 : Nat) : Int))), (7, .long (lI ((sg * (fc w)) - (sg * (fc i))))), (5, .long (lI ((sg * (fa i)) - (sg * (fa w))))), (4, .int (iI (i : Int))), (14, .long (lI ((((sg * (fa i)) - (sg * (fa w))) * z) - (y * ((sg * (fc w)) - (sg * (fc i))))))), (12, .long (lI ((sg * (fa i)) - (sg * (fa w))))), (10, .long (lI ((sg * (fc w)) - (sg * (fc i))))), (0, .ref g), (1, .ref h), (2, .int (iI (w : Int))), (3, .int (iI T))]) 0 rfl (by omega) rfl ?_
                refine x_goto (tgt := 13) C dX7_nextPlan_135 (by decide) ?_
                refine x_lv [7, 8, 9, 10, 3, 2, 1, 0] rfl ?_
                exact ih13 ((i + 1), (i : Int), ((sg * (fa i)) - (sg * (fa w))), ((sg * (fc w)) - (sg * (fc i)))) ⟨(show (i + 1) ≤ n from by omega), (show -1 ≤ (i : Int) ∧ (i : Int) ≤ 3000 from by omega), (show -3200 ≤ ((sg * (fa i)) - (sg * (fa w))) ∧ ((sg * (fa i)) - (sg * (fa w))) ≤ 3200 from by omega), (show 1 ≤ ((sg * (fc w)) - (sg * (fc i))) ∧ ((sg * (fc w)) - (sg * (fc i))) ≤ 3200 from by omega), (show ((i : Int), ((sg * (fa i)) - (sg * (fa w))), ((sg * (fc w)) - (sg * (fc i)))) = nxs (fun q_ => (sg * fa q_) - (sg * fa w)) (fun q_ => (sg * fc w) - (sg * fc q_)) T (i + 1) from by first | exact nxs_step he (show 0 < (sg * fc w) - (sg * fc i) ∧ (((sg * fa i) - (sg * fa w)) * z - y * ((sg * fc w) - (sg * fc i)) < 0 ∨ (((sg * fa i) - (sg * fa w)) * z - y * ((sg * fc w) - (sg * fc i)) = 0 ∧ x ≠ -1 ∧ z < (sg * fc w) - (sg * fc i))) by omega) | exact nxs_stay he (show ¬ (0 < (sg * fc w) - (sg * fc i) ∧ (((sg * fa i) - (sg * fa w)) * z - y * ((sg * fc w) - (sg * fc i)) < 0 ∨ (((sg * fa i) - (sg * fa w)) * z - y * ((sg * fc w) - (sg * fc i)) = 0 ∧ x ≠ -1 ∧ z < (sg * fc w) - (sg * fc i)))) by omega))⟩ (show n - (i + 1) < n - i from by omega)
              ·
                refine x_goto (tgt := 132) C dX7_nextPlan_117 (by decide) ?_
                refine x_iinc (pc' := 135) (lv' := [(9, .int (iI ((i : Int) + 1))), (14, .long (lI ((((sg * (fa i)) - (sg * (fa w))) * z) - (y * ((sg * (fc w)) - (sg * (fc i))))))), (12, .long (lI ((sg * (fa i)) - (sg * (fa w))))), (10, .long (lI ((sg * (fc w)) - (sg * (fc i))))), (0, .ref g), (1, .ref h), (2, .int (iI (w : Int))), (3, .int (iI T)), (4, .int (iI x)), (5, .long (lI y)), (7, .long (lI z))]) C 10 dX7_nextPlan_132 rfl (by decide) rfl rfl ?_
                refine x_lvI (lv' := [(9, .int (iI ((i + 1 : Nat) : Int))), (14, .long (lI ((((sg * (fa i)) - (sg * (fa w))) * z) - (y * ((sg * (fc w)) - (sg * (fc i))))))), (12, .long (lI ((sg * (fa i)) - (sg * (fa w))))), (10, .long (lI ((sg * (fc w)) - (sg * (fc i))))), (0, .ref g), (1, .ref h), (2, .int (iI (w : Int))), (3, .int (iI T)), (4, .int (iI x)), (5, .long (lI y)), (7, .long (lI z))]) 0 rfl (by omega) rfl ?_
                refine x_goto (tgt := 13) C dX7_nextPlan_135 (by decide) ?_
                refine x_lv [4, 5, 6, 7, 8, 9, 10, 0] rfl ?_
                exact ih13 ((i + 1), x, y, z) ⟨(show (i + 1) ≤ n from by omega), (show -1 ≤ x ∧ x ≤ 3000 from by omega), (show -3200 ≤ y ∧ y ≤ 3200 from by omega), (show 1 ≤ z ∧ z ≤ 3200 from by omega), (show (x, y, z) = nxs (fun q_ => (sg * fa q_) - (sg * fa w)) (fun q_ => (sg * fc w) - (sg * fc q_)) T (i + 1) from by first | exact nxs_step he (show 0 < (sg * fc w) - (sg * fc i) ∧ (((sg * fa i) - (sg * fa w)) * z - y * ((sg * fc w) - (sg * fc i)) < 0 ∨ (((sg * fa i) - (sg * fa w)) * z - y * ((sg * fc w) - (sg * fc i)) = 0 ∧ x ≠ -1 ∧ z < (sg * fc w) - (sg * fc i))) by omega) | exact nxs_stay he (show ¬ (0 < (sg * fc w) - (sg * fc i) ∧ (((sg * fa i) - (sg * fa w)) * z - y * ((sg * fc w) - (sg * fc i)) < 0 ∨ (((sg * fa i) - (sg * fa w)) * z - y * ((sg * fc w) - (sg * fc i)) = 0 ∧ x ≠ -1 ∧ z < (sg * fc w) - (sg * fc i)))) by omega))⟩ (show n - (i + 1) < n - i from by omega)
      ·
        refine x_goto (tgt := 132) C dX7_nextPlan_51 (by decide) ?_
        refine x_iinc (pc' := 135) (lv' := [(9, .int (iI ((i : Int) + 1))), (10, .long (lI ((sg * (fc w)) - (sg * (fc i))))), (0, .ref g), (1, .ref h), (2, .int (iI (w : Int))), (3, .int (iI T)), (4, .int (iI x)), (5, .long (lI y)), (7, .long (lI z))]) C 8 dX7_nextPlan_132 rfl (by decide) rfl rfl ?_
        refine x_lvI (lv' := [(9, .int (iI ((i + 1 : Nat) : Int))), (10, .long (lI ((sg * (fc w)) - (sg * (fc i))))), (0, .ref g), (1, .ref h), (2, .int (iI (w : Int))), (3, .int (iI T)), (4, .int (iI x)), (5, .long (lI y)), (7, .long (lI z))]) 0 rfl (by omega) rfl ?_
        refine x_goto (tgt := 13) C dX7_nextPlan_135 (by decide) ?_
        refine x_lv [2, 3, 4, 5, 6, 7, 8, 0] rfl ?_
        exact ih13 ((i + 1), x, y, z) ⟨(show (i + 1) ≤ n from by omega), (show -1 ≤ x ∧ x ≤ 3000 from by omega), (show -3200 ≤ y ∧ y ≤ 3200 from by omega), (show 1 ≤ z ∧ z ≤ 3200 from by omega), (show (x, y, z) = nxs (fun q_ => (sg * fa q_) - (sg * fa w)) (fun q_ => (sg * fc w) - (sg * fc q_)) T (i + 1) from by first | exact nxs_step he (show 0 < (sg * fc w) - (sg * fc i) ∧ (((sg * fa i) - (sg * fa w)) * z - y * ((sg * fc w) - (sg * fc i)) < 0 ∨ (((sg * fa i) - (sg * fa w)) * z - y * ((sg * fc w) - (sg * fc i)) = 0 ∧ x ≠ -1 ∧ z < (sg * fc w) - (sg * fc i))) by omega) | exact nxs_stay he (show ¬ (0 < (sg * fc w) - (sg * fc i) ∧ (((sg * fa i) - (sg * fa w)) * z - y * ((sg * fc w) - (sg * fc i)) < 0 ∨ (((sg * fa i) - (sg * fa w)) * z - y * ((sg * fc w) - (sg * fc i)) = 0 ∧ x ≠ -1 ∧ z < (sg * fc w) - (sg * fc i)))) by omega))⟩ (show n - (i + 1) < n - i from by omega)
  · exact ⟨(show 0 ≤ n from by omega), (show -1 ≤ (-1) ∧ (-1) ≤ 3000 from by omega), (show -3200 ≤ T ∧ T ≤ 3200 from by omega), (show 1 ≤ 1 ∧ 1 ≤ 3200 from by omega), (show ((-1), T, 1) = nxs (fun q_ => (sg * fa q_) - (sg * fa w)) (fun q_ => (sg * fc w) - (sg * fc q_)) T 0 from rfl)⟩

set_option maxHeartbeats 4000000 in
set_option maxRecDepth 100000 in
theorem c_X7_bestSumAt (l : Launch) (E : EV) (h : Nat) (hb : Nat) (ha : Nat) (hc : Nat) (n : Nat) (sg : Int) (fa : Nat → Int) (fc : Nat → Int) (g : Nat) (gp : Nat) (gA : Nat) (gB : Nat) (c : Nat) (fp : Nat → Int) (fA : Nat → Int) (fB : Nat → Int) (i : Nat) (hn : n ≤ 2002) (h0 : 0 < n) (hA : ∀ j_ : Nat, j_ < n → -1600 ≤ fa j_ ∧ fa j_ ≤ 1600) (hB : ∀ j_ : Nat, j_ < n → -1600 ≤ fc j_ ∧ fc j_ ≤ 1600) (hsg : sg = 1 ∨ sg = -1) (hcc : 0 < c ∧ c ≤ 140) (hp : ∀ j_ : Nat, j_ < c → 0 ≤ fp j_ ∧ fp j_ < (n : Int)) (hi : i ≤ c) : MC l E yX7_bestSumAt cX7_bestSumAt 4 (some .long) ({ frames := 1, cells := 0, slots := 0, locals := 40 }) [.ref g, .ref h, .int (iI (i : Int))] [(h, ob 7 [.ref hb, .ref ha, .ref hc, .int (iI (n : Int)), .int (iI sg)]), (ha, ia E 2002 fa), (hc, ia E 2002 fc), (g, ob 6 [.ref gp, .ref gA, .ref gB, .int (iI (c : Int))]), (gp, ia E 140 fp), (gA, la E 141 fA), (gB, la E 141 fB)] (fun v_ w_ => v_ = some (.long (lI (bsum fa fc fp fA fB c i))) ∧ w_ = [(h, ob 7 [.ref hb, .ref ha, .ref hc, .int (iI (n : Int)), .int (iI sg)]), (ha, ia E 2002 fa), (hc, ia E 2002 fc), (g, ob 6 [.ref gp, .ref gA, .ref gB, .int (iI (c : Int))]), (gp, ia E 140 fp), (gA, la E 141 fA), (gB, la E 141 fB)]) := by
  refine MC.of (by decide +kernel) (Nat.le_of_ble_eq_true rfl) ?_
  intro p_ e_ s_ m_ args_ below_ meth_ c_ A_ C hr hnm
  have C : Cx p_ s_ m_ args_ meth_ c_ E A_ 4 cX7_bestSumAt RX7 := C
  show Wx _ _ _ _ _ _ _ _ _ _ _ _ _ _ _ _ 0 [(0, .ref g), (1, .ref h), (2, .int (iI (i : Int)))] [] [(h, ob 7 [.ref hb, .ref ha, .ref hc, .int (iI (n : Int)), .int (iI sg)]), (ha, ia E 2002 fa), (hc, ia E 2002 fc), (g, ob 6 [.ref gp, .ref gA, .ref gB, .int (iI (c : Int))]), (gp, ia E 140 fp), (gA, la E 141 fA), (gB, la E 141 fB)]
  refine x_aload_n (pc' := 1) C 0 dX7_bestSumAt_0 rfl rfl ?_
  refine x_get (pc' := 4) C dX7_bestSumAt_1 rfl ff_X7_11_6 3 rfl rfl ?_
  refine x_iconst (pc' := 5) C dX7_bestSumAt_4 rfl ?_
  refine x_iload_n (pc' := 6) C 2 dX7_bestSumAt_5 rfl rfl ?_
  refine x_aload_n (pc' := 7) C 0 dX7_bestSumAt_6 rfl rfl ?_
  refine x_get (pc' := 10) C dX7_bestSumAt_7 rfl ff_X7_22_6 3 rfl rfl ?_
  refine x_iconst (pc' := 11) C dX7_bestSumAt_10 rfl ?_
  refine x_isub (pc' := 12) C dX7_bestSumAt_11 rfl ?_
  refine x_mmin (pc' := 15) C dX7_bestSumAt_12 rfl cs_X7_50 (mm_J9_min_7cf53) (Nat.le_of_ble_eq_true rfl) (Nat.le_of_ble_eq_true rfl) ⟨Nat.le_of_ble_eq_true rfl, Nat.le_of_ble_eq_true rfl⟩ (by omega) (by omega) ?_
  refine x_mmax (pc' := 18) C dX7_bestSumAt_15 rfl cs_X7_56 (mm_J9_max_7cf53) (Nat.le_of_ble_eq_true rfl) (Nat.le_of_ble_eq_true rfl) ⟨Nat.le_of_ble_eq_true rfl, Nat.le_of_ble_eq_true rfl⟩ (by omega) (by omega) ?_
  have hp1 := hp (min i (c - 1)) (by omega)
  refine x_iald (pc' := 19) C (min i (c - 1)) dX7_bestSumAt_18 rfl 4 rfl (by omega) (by omega) (by omega) ?_
  refine x_top (b := .int (iI (((fp (min i (c - 1))).toNat : Nat) : Int))) (by congr 2; omega) ?_
  refine x_istore_n (pc' := 20) (lv' := [(3, .int (iI (((fp (min i (c - 1))).toNat : Nat) : Int))), (0, .ref g), (1, .ref h), (2, .int (iI (i : Int)))]) C dX7_bestSumAt_19 rfl (by decide) rfl ?_
  refine x_aload_n (pc' := 21) C 2 dX7_bestSumAt_20 rfl rfl ?_
  refine x_iload_n (pc' := 22) C 0 dX7_bestSumAt_21 rfl rfl ?_
  refine x_aload_n (pc' := 23) C 1 dX7_bestSumAt_22 rfl rfl ?_
  refine x_get (pc' := 26) C dX7_bestSumAt_23 rfl ff_X7_15_6 3 rfl rfl ?_
  refine x_iload_n (pc' := 27) C 3 dX7_bestSumAt_26 rfl rfl ?_
  refine x_lald (pc' := 28) C i dX7_bestSumAt_27 rfl 5 rfl (by omega) (by omega) (by omega) ?_
  refine x_aload_n (pc' := 29) C 1 dX7_bestSumAt_28 rfl rfl ?_
  refine x_get (pc' := 32) C dX7_bestSumAt_29 rfl ff_X7_19_6 3 rfl rfl ?_
  refine x_iload_n (pc' := 33) C 3 dX7_bestSumAt_32 rfl rfl ?_
  refine x_lald (pc' := 34) C i dX7_bestSumAt_33 rfl 6 rfl (by omega) (by omega) (by omega) ?_
  refine x_callV (pc' := 37) (As := [.int (iI (((fp (min i (c - 1))).toNat : Nat) : Int)), .long (lI (fA i)), .long (lI (fB i))]) (rest := []) (q0 := 0) C rfl rfl cv_X7_59_X8 dX7_bestSumAt_34 rfl (c_X8_sumAt l E h hb ha hc n ((fp (min i (c - 1))).toNat) sg (fA i) (fB i) fa fc (show ((fp (min i (c - 1))).toNat) < 2002 from by omega) (show -1600 ≤ fa ((fp (min i (c - 1))).toNat) ∧ fa ((fp (min i (c - 1))).toNat) ≤ 1600 from hA _ (by omega)) (show -1600 ≤ fc ((fp (min i (c - 1))).toNat) ∧ fc ((fp (min i (c - 1))).toNat) ≤ 1600 from hB _ (by omega))) mm_X8_sumAt (hstk := rfl) (hlen := rfl) (hcat := Nat.le_of_ble_eq_true rfl) (isC := [0, 1, 2]) (isR := [3, 4, 5, 6]) (wr := [(g, ob 6 [.ref gp, .ref gA, .ref gB, .int (iI (c : Int))]), (gp, ia E 140 fp), (gA, la E 141 fA), (gB, la E 141 fB)]) (hC := rfl) (hR := rfl) (hnC := rfl) (hn := rfl) (hdis := by decide) (hR1 := ⟨Nat.le_of_ble_eq_true rfl, Nat.le_of_ble_eq_true rfl⟩) (hcs := ⟨Nat.le_of_ble_eq_true rfl, Nat.le_of_ble_eq_true rfl⟩) (fun v_ w_ hp_ => ?_)
  obtain ⟨rfl, rfl⟩ := hp_
  show Wx _ _ _ _ _ _ _ _ _ _ _ _ _ _ _ _ 37 [(3, .int (iI (((fp (min i (c - 1))).toNat : Nat) : Int))), (0, .ref g), (1, .ref h), (2, .int (iI (i : Int)))] [.long (lI ((fa ((fp (min i (c - 1))).toNat)) * (fB i) + (fc ((fp (min i (c - 1))).toNat)) * (fA i)))] [(g, ob 6 [.ref gp, .ref gA, .ref gB, .int (iI (c : Int))]), (gp, ia E 140 fp), (gA, la E 141 fA), (gB, la E 141 fB), (h, ob 7 [.ref hb, .ref ha, .ref hc, .int (iI (n : Int)), .int (iI sg)]), (ha, ia E 2002 fa), (hc, ia E 2002 fc)]
  refine x_sub (ws' := [(h, ob 7 [.ref hb, .ref ha, .ref hc, .int (iI (n : Int)), .int (iI sg)]), (ha, ia E 2002 fa), (hc, ia E 2002 fc), (g, ob 6 [.ref gp, .ref gA, .ref gB, .int (iI (c : Int))]), (gp, ia E 140 fp), (gA, la E 141 fA), (gB, la E 141 fB)]) [4, 5, 6, 0, 1, 2, 3] rfl rfl ?_
  refine x_top (b := .long (lI (bsum fa fc fp fA fB c i))) (rfl) ?_
  exact x_lret C hr dX7_bestSumAt_37 ⟨rfl, rfl⟩

set_option maxHeartbeats 4000000 in
set_option maxRecDepth 100000 in
theorem c_X7_highestEnd (l : Launch) (E : EV) (h : Nat) (hb : Nat) (ha : Nat) (hc : Nat) (n : Nat) (sg : Int) (fa : Nat → Int) (fc : Nat → Int) (g : Nat) (gp : Nat) (gA : Nat) (gB : Nat) (c : Nat) (fp : Nat → Int) (fA : Nat → Int) (fB : Nat → Int) (hn : n ≤ 2002) (h0 : 0 < n) (hA : ∀ j_ : Nat, j_ < n → -1600 ≤ fa j_ ∧ fa j_ ≤ 1600) (hB : ∀ j_ : Nat, j_ < n → -1600 ≤ fc j_ ∧ fc j_ ≤ 1600) (hsg : sg = 1 ∨ sg = -1) (hcc : 0 < c ∧ c ≤ 140) (hp : ∀ j_ : Nat, j_ < c → 0 ≤ fp j_ ∧ fp j_ < (n : Int)) (hE : ∀ j_ : Nat, j_ ≤ c → (0 ≤ fA j_ ∧ fA j_ ≤ 3200) ∧ (1 ≤ fB j_ ∧ fB j_ ≤ 3200)) : MC l E yX7_highestEnd cX7_highestEnd 4 (some .int) ({ frames := 2, cells := 0, slots := 0, locals := 63 }) [.ref g, .ref h] [(h, ob 7 [.ref hb, .ref ha, .ref hc, .int (iI (n : Int)), .int (iI sg)]), (ha, ia E 2002 fa), (hc, ia E 2002 fc), (g, ob 6 [.ref gp, .ref gA, .ref gB, .int (iI (c : Int))]), (gp, ia E 140 fp), (gA, la E 141 fA), (gB, la E 141 fB)] (fun v_ w_ => v_ = some (.int (iI ((hend (bsum fa fc fp fA fB c) fB c : Nat) : Int))) ∧ w_ = [(h, ob 7 [.ref hb, .ref ha, .ref hc, .int (iI (n : Int)), .int (iI sg)]), (ha, ia E 2002 fa), (hc, ia E 2002 fc), (g, ob 6 [.ref gp, .ref gA, .ref gB, .int (iI (c : Int))]), (gp, ia E 140 fp), (gA, la E 141 fA), (gB, la E 141 fB)]) := by
  refine MC.of (by decide +kernel) (Nat.le_of_ble_eq_true rfl) ?_
  intro p_ e_ s_ m_ args_ below_ meth_ c_ A_ C hr hnm
  have C : Cx p_ s_ m_ args_ meth_ c_ E A_ 4 cX7_highestEnd RX7 := C
  show Wx _ _ _ _ _ _ _ _ _ _ _ _ _ _ _ _ 0 [(0, .ref g), (1, .ref h)] [] [(h, ob 7 [.ref hb, .ref ha, .ref hc, .int (iI (n : Int)), .int (iI sg)]), (ha, ia E 2002 fa), (hc, ia E 2002 fc), (g, ob 6 [.ref gp, .ref gA, .ref gB, .int (iI (c : Int))]), (gp, ia E 140 fp), (gA, la E 141 fA), (gB, la E 141 fB)]
  refine x_iconst (pc' := 1) C dX7_highestEnd_0 rfl ?_
  refine x_istore_n (pc' := 2) (lv' := [(2, .int (iI 0)), (0, .ref g), (1, .ref h)]) C dX7_highestEnd_1 rfl (by decide) rfl ?_
  refine x_iconst (pc' := 3) C dX7_highestEnd_2 rfl ?_
  refine x_istore_n (pc' := 4) (lv' := [(3, .int (iI 1)), (2, .int (iI 0)), (0, .ref g), (1, .ref h)]) C dX7_highestEnd_3 rfl (by decide) rfl ?_
  refine x_lv [2, 3, 1, 0] rfl ?_
  refine x_lvI (lv' := [(0, .ref g), (1, .ref h), (2, .int (iI 0)), (3, .int (iI ((0 + 1 : Nat) : Int)))]) 3 rfl (by omega) rfl ?_
  refine x_loop (α := (Nat) × (Nat)) (fun a_ => (a_.1 ≤ c) ∧ (a_.2 ≤ c) ∧ (a_.2 = hend (bsum fa fc fp fA fB c) fB a_.1)) (fun a_ => c - a_.1) (fun a_ => [(0, .ref g), (1, .ref h), (2, .int (iI (a_.2 : Int))), (3, .int (iI ((a_.1 + 1 : Nat) : Int)))]) (fun a_ => [(h, ob 7 [.ref hb, .ref ha, .ref hc, .int (iI (n : Int)), .int (iI sg)]), (ha, ia E 2002 fa), (hc, ia E 2002 fc), (g, ob 6 [.ref gp, .ref gA, .ref gB, .int (iI (c : Int))]), (gp, ia E 140 fp), (gA, la E 141 fA), (gB, la E 141 fB)]) ?_ (0, 0) ?_
  · intro a_ hI_ ih4
    obtain ⟨i, j⟩ := a_
    obtain ⟨hi, hj, hb_⟩ := hI_
    replace hi : i ≤ c := hi
    replace hj : j ≤ c := hj
    replace hb_ : j = hend (bsum fa fc fp fA fB c) fB i := hb_
    show Wx _ _ _ _ _ _ _ _ _ _ _ _ _ _ _ _ 4 [(0, .ref g), (1, .ref h), (2, .int (iI (j : Int))), (3, .int (iI ((i + 1 : Nat) : Int)))] [] [(h, ob 7 [.ref hb, .ref ha, .ref hc, .int (iI (n : Int)), .int (iI sg)]), (ha, ia E 2002 fa), (hc, ia E 2002 fc), (g, ob 6 [.ref gp, .ref gA, .ref gB, .int (iI (c : Int))]), (gp, ia E 140 fp), (gA, la E 141 fA), (gB, la E 141 fB)]
    refine x_iload_n (pc' := 5) C 3 dX7_highestEnd_4 rfl rfl ?_
    refine x_aload_n (pc' := 6) C 0 dX7_highestEnd_5 rfl rfl ?_
    refine x_get (pc' := 9) C dX7_highestEnd_6 rfl ff_X7_22_6 3 rfl rfl ?_
    refine x_icmp_gt (pc' := 12) (tgt := 50) C dX7_highestEnd_9 rfl (by decide) (by omega) (by omega) (fun c9 => ?_) (fun c9 => ?_)
    ·
      refine x_iload_n (pc' := 51) C 2 dX7_highestEnd_50 rfl rfl ?_
      refine x_top (b := .int (iI ((hend (bsum fa fc fp fA fB c) fB c : Nat) : Int))) (by rw [hb_, show i = c by omega]) ?_
      exact x_iret C hr dX7_highestEnd_51 ⟨rfl, rfl⟩
    ·
      refine x_aload_n (pc' := 13) C 0 dX7_highestEnd_12 rfl rfl ?_
      refine x_aload_n (pc' := 14) C 1 dX7_highestEnd_13 rfl rfl ?_
      refine x_iload_n (pc' := 15) C 3 dX7_highestEnd_14 rfl rfl ?_
      refine x_callV (pc' := 18) (As := [.ref h, .int (iI ((i + 1 : Nat) : Int))]) (rest := []) (q0 := 3) C rfl rfl cv_X7_63_X7 dX7_highestEnd_15 rfl (c_X7_bestSumAt l E h hb ha hc n sg fa fc g gp gA gB c fp fA fB (i + 1) (show n ≤ 2002 from by omega) (show 0 < n from by omega) (show ∀ j_ : Nat, j_ < n → -1600 ≤ fa j_ ∧ fa j_ ≤ 1600 from hA) (show ∀ j_ : Nat, j_ < n → -1600 ≤ fc j_ ∧ fc j_ ≤ 1600 from hB) (show sg = 1 ∨ sg = -1 from hsg) (show 0 < c ∧ c ≤ 140 from hcc) (show ∀ j_ : Nat, j_ < c → 0 ≤ fp j_ ∧ fp j_ < (n : Int) from hp) (show (i + 1) ≤ c from by omega)) mm_X7_bestSumAt (hstk := rfl) (hlen := rfl) (hcat := Nat.le_of_ble_eq_true rfl) (isC := [0, 1, 2, 3, 4, 5, 6]) (isR := []) (wr := []) (hC := rfl) (hR := rfl) (hnC := rfl) (hn := rfl) (hdis := by decide) (hR1 := ⟨Nat.le_of_ble_eq_true rfl, Nat.le_of_ble_eq_true rfl⟩) (hcs := ⟨Nat.le_of_ble_eq_true rfl, Nat.le_of_ble_eq_true rfl⟩) (fun v_ w_ hp_ => ?_)
      obtain ⟨rfl, rfl⟩ := hp_
      show Wx _ _ _ _ _ _ _ _ _ _ _ _ _ _ _ _ 18 [(0, .ref g), (1, .ref h), (2, .int (iI (j : Int))), (3, .int (iI ((i + 1 : Nat) : Int)))] [.long (lI (bsum fa fc fp fA fB c (i + 1)))] [(h, ob 7 [.ref hb, .ref ha, .ref hc, .int (iI (n : Int)), .int (iI sg)]), (ha, ia E 2002 fa), (hc, ia E 2002 fc), (g, ob 6 [.ref gp, .ref gA, .ref gB, .int (iI (c : Int))]), (gp, ia E 140 fp), (gA, la E 141 fA), (gB, la E 141 fB)]
      refine x_aload_n (pc' := 19) C 0 dX7_highestEnd_18 rfl rfl ?_
      refine x_get (pc' := 22) C dX7_highestEnd_19 rfl ff_X7_19_6 3 rfl rfl ?_
      refine x_iload_n (pc' := 23) C 2 dX7_highestEnd_22 rfl rfl ?_
      refine x_lald (pc' := 24) C j dX7_highestEnd_23 rfl 6 rfl (by omega) (by omega) (by omega) ?_
      refine x_lmul (pc' := 25) C dX7_highestEnd_24 rfl ?_
      refine x_aload_n (pc' := 26) C 0 dX7_highestEnd_25 rfl rfl ?_
      refine x_aload_n (pc' := 27) C 1 dX7_highestEnd_26 rfl rfl ?_
      refine x_iload_n (pc' := 28) C 2 dX7_highestEnd_27 rfl rfl ?_
      refine x_callV (pc' := 31) (As := [.ref h, .int (iI (j : Int))]) (rest := [.long (lI ((bsum fa fc fp fA fB c (i + 1)) * (fB j)))]) (q0 := 3) C rfl rfl cv_X7_63_X7 dX7_highestEnd_28 rfl (c_X7_bestSumAt l E h hb ha hc n sg fa fc g gp gA gB c fp fA fB j (show n ≤ 2002 from by omega) (show 0 < n from by omega) (show ∀ j_ : Nat, j_ < n → -1600 ≤ fa j_ ∧ fa j_ ≤ 1600 from hA) (show ∀ j_ : Nat, j_ < n → -1600 ≤ fc j_ ∧ fc j_ ≤ 1600 from hB) (show sg = 1 ∨ sg = -1 from hsg) (show 0 < c ∧ c ≤ 140 from hcc) (show ∀ j_ : Nat, j_ < c → 0 ≤ fp j_ ∧ fp j_ < (n : Int) from hp) (show j ≤ c from by omega)) mm_X7_bestSumAt (hstk := rfl) (hlen := rfl) (hcat := Nat.le_of_ble_eq_true rfl) (isC := [0, 1, 2, 3, 4, 5, 6]) (isR := []) (wr := []) (hC := rfl) (hR := rfl) (hnC := rfl) (hn := rfl) (hdis := by decide) (hR1 := ⟨Nat.le_of_ble_eq_true rfl, Nat.le_of_ble_eq_true rfl⟩) (hcs := ⟨Nat.le_of_ble_eq_true rfl, Nat.le_of_ble_eq_true rfl⟩) (fun v_ w_ hp_ => ?_)
      obtain ⟨rfl, rfl⟩ := hp_
      show Wx _ _ _ _ _ _ _ _ _ _ _ _ _ _ _ _ 31 [(0, .ref g), (1, .ref h), (2, .int (iI (j : Int))), (3, .int (iI ((i + 1 : Nat) : Int)))] [.long (lI (bsum fa fc fp fA fB c j)), .long (lI ((bsum fa fc fp fA fB c (i + 1)) * (fB j)))] [(h, ob 7 [.ref hb, .ref ha, .ref hc, .int (iI (n : Int)), .int (iI sg)]), (ha, ia E 2002 fa), (hc, ia E 2002 fc), (g, ob 6 [.ref gp, .ref gA, .ref gB, .int (iI (c : Int))]), (gp, ia E 140 fp), (gA, la E 141 fA), (gB, la E 141 fB)]
      have v1 := bsum_bd (i := (i + 1)) hA hB hp hcc.1 (hE (i + 1) (by omega)).1 (hE (i + 1) (by omega)).2
      have v2 := bsum_bd (i := j) hA hB hp hcc.1 (hE j (by omega)).1 (hE j (by omega)).2
      have v3 := (hE (i + 1) (by omega)).2
      have v4 := (hE j (by omega)).2
      have v5 := mulb (y := fB j) (b := 3200) v1 (by omega)
      have v6 := mulb (y := fB (i + 1)) (b := 3200) v2 (by omega)
      refine x_aload_n (pc' := 32) C 0 dX7_highestEnd_31 rfl rfl ?_
      refine x_get (pc' := 35) C dX7_highestEnd_32 rfl ff_X7_19_6 3 rfl rfl ?_
      refine x_iload_n (pc' := 36) C 3 dX7_highestEnd_35 rfl rfl ?_
      refine x_lald (pc' := 37) C (i + 1) dX7_highestEnd_36 rfl 6 rfl (by omega) (by omega) (by omega) ?_
      refine x_lmul (pc' := 38) C dX7_highestEnd_37 rfl ?_
      refine x_lcmp_le (pc' := 42) (tgt := 44) C dX7_highestEnd_38 (pc1 := 39) rfl dX7_highestEnd_39 rfl (by decide) (by omega) (by omega) (fun c38 => ?_) (fun c38 => ?_)
      ·
        refine x_iinc (pc' := 47) (lv' := [(3, .int (iI (((i + 1 : Nat) : Int) + 1))), (0, .ref g), (1, .ref h), (2, .int (iI (j : Int)))]) C 3 dX7_highestEnd_44 rfl (by decide) rfl rfl ?_
        refine x_lvI (lv' := [(3, .int (iI (((i + 1) + 1 : Nat) : Int))), (0, .ref g), (1, .ref h), (2, .int (iI (j : Int)))]) 0 rfl (by omega) rfl ?_
        refine x_goto (tgt := 4) C dX7_highestEnd_47 (by decide) ?_
        refine x_lv [1, 2, 3, 0] rfl ?_
        exact ih4 ((i + 1), j) ⟨(show (i + 1) ≤ c from by omega), (show j ≤ c from by omega), (show j = hend (bsum fa fc fp fA fB c) fB (i + 1) from by first | exact hend_step hb_ c38 | exact hend_stay hb_ c38)⟩ (show c - (i + 1) < c - i from by omega)
      ·
        refine x_iload_n (pc' := 43) C 3 dX7_highestEnd_42 rfl rfl ?_
        refine x_istore_n (pc' := 44) (lv' := [(2, .int (iI ((i + 1 : Nat) : Int))), (0, .ref g), (1, .ref h), (3, .int (iI ((i + 1 : Nat) : Int)))]) C dX7_highestEnd_43 rfl (by decide) rfl ?_
        refine x_iinc (pc' := 47) (lv' := [(3, .int (iI (((i + 1 : Nat) : Int) + 1))), (2, .int (iI ((i + 1 : Nat) : Int))), (0, .ref g), (1, .ref h)]) C 3 dX7_highestEnd_44 rfl (by decide) rfl rfl ?_
        refine x_lvI (lv' := [(3, .int (iI (((i + 1) + 1 : Nat) : Int))), (2, .int (iI ((i + 1 : Nat) : Int))), (0, .ref g), (1, .ref h)]) 0 rfl (by omega) rfl ?_
        refine x_goto (tgt := 4) C dX7_highestEnd_47 (by decide) ?_
        refine x_lv [2, 3, 1, 0] rfl ?_
        exact ih4 ((i + 1), (i + 1)) ⟨(show (i + 1) ≤ c from by omega), (show (i + 1) ≤ c from by omega), (show (i + 1) = hend (bsum fa fc fp fA fB c) fB (i + 1) from by first | exact hend_step hb_ c38 | exact hend_stay hb_ c38)⟩ (show c - (i + 1) < c - i from by omega)
  · exact ⟨(show 0 ≤ c from by omega), (show 0 ≤ c from by omega), (show 0 = hend (bsum fa fc fp fA fB c) fB 0 from rfl)⟩

set_option maxHeartbeats 4000000 in
set_option maxRecDepth 100000 in
theorem c_X7_isBestAtEnd (l : Launch) (E : EV) (h : Nat) (hb : Nat) (ha : Nat) (hc : Nat) (n : Nat) (sg : Int) (fa : Nat → Int) (fc : Nat → Int) (g : Nat) (gp : Nat) (gA : Nat) (gB : Nat) (c : Nat) (fp : Nat → Int) (fA : Nat → Int) (fB : Nat → Int) (u : Nat) (i : Nat) (hn : n ≤ 2002) (h0 : 0 < n) (hA : ∀ j_ : Nat, j_ < n → -1600 ≤ fa j_ ∧ fa j_ ≤ 1600) (hB : ∀ j_ : Nat, j_ < n → -1600 ≤ fc j_ ∧ fc j_ ≤ 1600) (hsg : sg = 1 ∨ sg = -1) (hcc : 0 < c ∧ c ≤ 140) (hp : ∀ j_ : Nat, j_ < c → 0 ≤ fp j_ ∧ fp j_ < (n : Int)) (hE : ∀ j_ : Nat, j_ ≤ c → (0 ≤ fA j_ ∧ fA j_ ≤ 3200) ∧ (1 ≤ fB j_ ∧ fB j_ ≤ 3200)) (hu : u < n) (hi : i ≤ c) : MC l E yX7_isBestAtEnd cX7_isBestAtEnd 4 (some .boolean) ({ frames := 2, cells := 0, slots := 0, locals := 63 }) [.ref g, .ref h, .int (iI (u : Int)), .int (iI (i : Int))] [(h, ob 7 [.ref hb, .ref ha, .ref hc, .int (iI (n : Int)), .int (iI sg)]), (ha, ia E 2002 fa), (hc, ia E 2002 fc), (g, ob 6 [.ref gp, .ref gA, .ref gB, .int (iI (c : Int))]), (gp, ia E 140 fp), (gA, la E 141 fA), (gB, la E 141 fB)] (fun v_ w_ => v_ = some (.int (iI (bI (fa u * fB i + fc u * fA i = bsum fa fc fp fA fB c i)))) ∧ w_ = [(h, ob 7 [.ref hb, .ref ha, .ref hc, .int (iI (n : Int)), .int (iI sg)]), (ha, ia E 2002 fa), (hc, ia E 2002 fc), (g, ob 6 [.ref gp, .ref gA, .ref gB, .int (iI (c : Int))]), (gp, ia E 140 fp), (gA, la E 141 fA), (gB, la E 141 fB)]) := by
  refine MC.of (by decide +kernel) (Nat.le_of_ble_eq_true rfl) ?_
  intro p_ e_ s_ m_ args_ below_ meth_ c_ A_ C hr hnm
  have C : Cx p_ s_ m_ args_ meth_ c_ E A_ 4 cX7_isBestAtEnd RX7 := C
  show Wx _ _ _ _ _ _ _ _ _ _ _ _ _ _ _ _ 0 [(0, .ref g), (1, .ref h), (2, .int (iI (u : Int))), (3, .int (iI (i : Int)))] [] [(h, ob 7 [.ref hb, .ref ha, .ref hc, .int (iI (n : Int)), .int (iI sg)]), (ha, ia E 2002 fa), (hc, ia E 2002 fc), (g, ob 6 [.ref gp, .ref gA, .ref gB, .int (iI (c : Int))]), (gp, ia E 140 fp), (gA, la E 141 fA), (gB, la E 141 fB)]
  refine x_aload_n (pc' := 1) C 1 dX7_isBestAtEnd_0 rfl rfl ?_
  refine x_iload_n (pc' := 2) C 2 dX7_isBestAtEnd_1 rfl rfl ?_
  refine x_aload_n (pc' := 3) C 0 dX7_isBestAtEnd_2 rfl rfl ?_
  refine x_get (pc' := 6) C dX7_isBestAtEnd_3 rfl ff_X7_15_6 3 rfl rfl ?_
  refine x_iload_n (pc' := 7) C 3 dX7_isBestAtEnd_6 rfl rfl ?_
  refine x_lald (pc' := 8) C i dX7_isBestAtEnd_7 rfl 5 rfl (by omega) (by omega) (by omega) ?_
  refine x_aload_n (pc' := 9) C 0 dX7_isBestAtEnd_8 rfl rfl ?_
  refine x_get (pc' := 12) C dX7_isBestAtEnd_9 rfl ff_X7_19_6 3 rfl rfl ?_
  refine x_iload_n (pc' := 13) C 3 dX7_isBestAtEnd_12 rfl rfl ?_
  refine x_lald (pc' := 14) C i dX7_isBestAtEnd_13 rfl 6 rfl (by omega) (by omega) (by omega) ?_
  refine x_callV (pc' := 17) (As := [.int (iI (u : Int)), .long (lI (fA i)), .long (lI (fB i))]) (rest := []) (q0 := 0) C rfl rfl cv_X7_59_X8 dX7_isBestAtEnd_14 rfl (c_X8_sumAt l E h hb ha hc n u sg (fA i) (fB i) fa fc (show u < 2002 from by omega) (show -1600 ≤ fa u ∧ fa u ≤ 1600 from hA u hu) (show -1600 ≤ fc u ∧ fc u ≤ 1600 from hB u hu)) mm_X8_sumAt (hstk := rfl) (hlen := rfl) (hcat := Nat.le_of_ble_eq_true rfl) (isC := [0, 1, 2]) (isR := [3, 4, 5, 6]) (wr := [(g, ob 6 [.ref gp, .ref gA, .ref gB, .int (iI (c : Int))]), (gp, ia E 140 fp), (gA, la E 141 fA), (gB, la E 141 fB)]) (hC := rfl) (hR := rfl) (hnC := rfl) (hn := rfl) (hdis := by decide) (hR1 := ⟨Nat.le_of_ble_eq_true rfl, Nat.le_of_ble_eq_true rfl⟩) (hcs := ⟨Nat.le_of_ble_eq_true rfl, Nat.le_of_ble_eq_true rfl⟩) (fun v_ w_ hp_ => ?_)
  obtain ⟨rfl, rfl⟩ := hp_
  show Wx _ _ _ _ _ _ _ _ _ _ _ _ _ _ _ _ 17 [(0, .ref g), (1, .ref h), (2, .int (iI (u : Int))), (3, .int (iI (i : Int)))] [.long (lI ((fa u) * (fB i) + (fc u) * (fA i)))] [(g, ob 6 [.ref gp, .ref gA, .ref gB, .int (iI (c : Int))]), (gp, ia E 140 fp), (gA, la E 141 fA), (gB, la E 141 fB), (h, ob 7 [.ref hb, .ref ha, .ref hc, .int (iI (n : Int)), .int (iI sg)]), (ha, ia E 2002 fa), (hc, ia E 2002 fc)]
  refine x_sub (ws' := [(h, ob 7 [.ref hb, .ref ha, .ref hc, .int (iI (n : Int)), .int (iI sg)]), (ha, ia E 2002 fa), (hc, ia E 2002 fc), (g, ob 6 [.ref gp, .ref gA, .ref gB, .int (iI (c : Int))]), (gp, ia E 140 fp), (gA, la E 141 fA), (gB, la E 141 fB)]) [4, 5, 6, 0, 1, 2, 3] rfl rfl ?_
  refine x_aload_n (pc' := 18) C 0 dX7_isBestAtEnd_17 rfl rfl ?_
  refine x_aload_n (pc' := 19) C 1 dX7_isBestAtEnd_18 rfl rfl ?_
  refine x_iload_n (pc' := 20) C 3 dX7_isBestAtEnd_19 rfl rfl ?_
  refine x_callV (pc' := 23) (As := [.ref h, .int (iI (i : Int))]) (rest := [.long (lI ((fa u) * (fB i) + (fc u) * (fA i)))]) (q0 := 3) C rfl rfl cv_X7_63_X7 dX7_isBestAtEnd_20 rfl (c_X7_bestSumAt l E h hb ha hc n sg fa fc g gp gA gB c fp fA fB i (show n ≤ 2002 from by omega) (show 0 < n from by omega) (show ∀ j_ : Nat, j_ < n → -1600 ≤ fa j_ ∧ fa j_ ≤ 1600 from hA) (show ∀ j_ : Nat, j_ < n → -1600 ≤ fc j_ ∧ fc j_ ≤ 1600 from hB) (show sg = 1 ∨ sg = -1 from hsg) (show 0 < c ∧ c ≤ 140 from hcc) (show ∀ j_ : Nat, j_ < c → 0 ≤ fp j_ ∧ fp j_ < (n : Int) from hp) (show i ≤ c from by omega)) mm_X7_bestSumAt (hstk := rfl) (hlen := rfl) (hcat := Nat.le_of_ble_eq_true rfl) (isC := [0, 1, 2, 3, 4, 5, 6]) (isR := []) (wr := []) (hC := rfl) (hR := rfl) (hnC := rfl) (hn := rfl) (hdis := by decide) (hR1 := ⟨Nat.le_of_ble_eq_true rfl, Nat.le_of_ble_eq_true rfl⟩) (hcs := ⟨Nat.le_of_ble_eq_true rfl, Nat.le_of_ble_eq_true rfl⟩) (fun v_ w_ hp_ => ?_)
  obtain ⟨rfl, rfl⟩ := hp_
  show Wx _ _ _ _ _ _ _ _ _ _ _ _ _ _ _ _ 23 [(0, .ref g), (1, .ref h), (2, .int (iI (u : Int))), (3, .int (iI (i : Int)))] [.long (lI (bsum fa fc fp fA fB c i)), .long (lI ((fa u) * (fB i) + (fc u) * (fA i)))] [(h, ob 7 [.ref hb, .ref ha, .ref hc, .int (iI (n : Int)), .int (iI sg)]), (ha, ia E 2002 fa), (hc, ia E 2002 fc), (g, ob 6 [.ref gp, .ref gA, .ref gB, .int (iI (c : Int))]), (gp, ia E 140 fp), (gA, la E 141 fA), (gB, la E 141 fB)]
  have v1 := bsum_bd (i := i) hA hB hp hcc.1 (hE i (by omega)).1 (hE i (by omega)).2
  have v3 := hE i (by omega)
  have v5 := mulb (y := fB i) (b := 3200) (hA u hu) (by omega)
  have v6 := mulb (y := fA i) (b := 3200) (hB u hu) (by omega)
  refine x_lcmp_ne (pc' := 27) (tgt := 31) C dX7_isBestAtEnd_23 (pc1 := 24) rfl dX7_isBestAtEnd_24 rfl (by decide) (by omega) (by omega) (fun c23 => ?_) (fun c23 => ?_)
  ·
    refine x_iconst (pc' := 32) C dX7_isBestAtEnd_31 rfl ?_
    refine x_top (b := .int (iI (bI (fa u * fB i + fc u * fA i = bsum fa fc fp fA fB c i)))) (by first | rw [bI_t c23] | rw [bI_f c23]) ?_
    exact x_zret C (nar_bI) hr dX7_isBestAtEnd_32 ⟨rfl, rfl⟩
  ·
    refine x_iconst (pc' := 28) C dX7_isBestAtEnd_27 rfl ?_
    refine x_goto (tgt := 32) C dX7_isBestAtEnd_28 (by decide) ?_
    refine x_top (b := .int (iI (bI (fa u * fB i + fc u * fA i = bsum fa fc fp fA fB c i)))) (by first | rw [bI_t c23] | rw [bI_f c23]) ?_
    exact x_zret C (nar_bI) hr dX7_isBestAtEnd_32 ⟨rfl, rfl⟩

set_option maxHeartbeats 4000000 in
set_option maxRecDepth 100000 in
theorem c_X7_firstEndOf (l : Launch) (E : EV) (h : Nat) (hb : Nat) (ha : Nat) (hc : Nat) (n : Nat) (sg : Int) (fa : Nat → Int) (fc : Nat → Int) (g : Nat) (gp : Nat) (gA : Nat) (gB : Nat) (c : Nat) (fp : Nat → Int) (fA : Nat → Int) (fB : Nat → Int) (u : Nat) (hn : n ≤ 2002) (h0 : 0 < n) (hA : ∀ j_ : Nat, j_ < n → -1600 ≤ fa j_ ∧ fa j_ ≤ 1600) (hB : ∀ j_ : Nat, j_ < n → -1600 ≤ fc j_ ∧ fc j_ ≤ 1600) (hsg : sg = 1 ∨ sg = -1) (hcc : 0 < c ∧ c ≤ 140) (hp : ∀ j_ : Nat, j_ < c → 0 ≤ fp j_ ∧ fp j_ < (n : Int)) (hE : ∀ j_ : Nat, j_ ≤ c → (0 ≤ fA j_ ∧ fA j_ ≤ 3200) ∧ (1 ≤ fB j_ ∧ fB j_ ≤ 3200)) (hu : u < n) : MC l E yX7_firstEndOf cX7_firstEndOf 4 (some .int) ({ frames := 3, cells := 0, slots := 0, locals := 86 }) [.ref g, .ref h, .int (iI (u : Int))] [(h, ob 7 [.ref hb, .ref ha, .ref hc, .int (iI (n : Int)), .int (iI sg)]), (ha, ia E 2002 fa), (hc, ia E 2002 fc), (g, ob 6 [.ref gp, .ref gA, .ref gB, .int (iI (c : Int))]), (gp, ia E 140 fp), (gA, la E 141 fA), (gB, la E 141 fB)] (fun v_ w_ => ∃ (r : Int), v_ = some (.int (iI r)) ∧ w_ = [(h, ob 7 [.ref hb, .ref ha, .ref hc, .int (iI (n : Int)), .int (iI sg)]), (ha, ia E 2002 fa), (hc, ia E 2002 fc), (g, ob 6 [.ref gp, .ref gA, .ref gB, .int (iI (c : Int))]), (gp, ia E 140 fp), (gA, la E 141 fA), (gB, la E 141 fB)] ∧ ((r = -1 ∧ ∀ j_ : Nat, j_ ≤ c → ¬ (fa u * fB j_ + fc u * fA j_ = bsum fa fc fp fA fB c j_)) ∨ ∃ i_ : Nat, i_ ≤ c ∧ r = (i_ : Int) ∧ (fa u * fB i_ + fc u * fA i_ = bsum fa fc fp fA fB c i_) ∧ ∀ j_ : Nat, j_ < i_ → ¬ (fa u * fB j_ + fc u * fA j_ = bsum fa fc fp fA fB c j_))) := by
  refine MC.of (by decide +kernel) (Nat.le_of_ble_eq_true rfl) ?_
  intro p_ e_ s_ m_ args_ below_ meth_ c_ A_ C hr hnm
  have C : Cx p_ s_ m_ args_ meth_ c_ E A_ 4 cX7_firstEndOf RX7 := C
  show Wx _ _ _ _ _ _ _ _ _ _ _ _ _ _ _ _ 0 [(0, .ref g), (1, .ref h), (2, .int (iI (u : Int)))] [] [(h, ob 7 [.ref hb, .ref ha, .ref hc, .int (iI (n : Int)), .int (iI sg)]), (ha, ia E 2002 fa), (hc, ia E 2002 fc), (g, ob 6 [.ref gp, .ref gA, .ref gB, .int (iI (c : Int))]), (gp, ia E 140 fp), (gA, la E 141 fA), (gB, la E 141 fB)]
  refine x_iconst (pc' := 1) C dX7_firstEndOf_0 rfl ?_
  refine x_istore_n (pc' := 2) (lv' := [(3, .int (iI 0)), (0, .ref g), (1, .ref h), (2, .int (iI (u : Int)))]) C dX7_firstEndOf_1 rfl (by decide) rfl ?_
  refine x_lv [1, 2, 3, 0] rfl ?_
  refine x_loop (α := Nat) (fun a_ => (a_ ≤ c + 1) ∧ (∀ j_ : Nat, j_ < a_ → ¬ (fa u * fB j_ + fc u * fA j_ = bsum fa fc fp fA fB c j_))) (fun a_ => c + 1 - a_) (fun a_ => [(0, .ref g), (1, .ref h), (2, .int (iI (u : Int))), (3, .int (iI (a_ : Int)))]) (fun a_ => [(h, ob 7 [.ref hb, .ref ha, .ref hc, .int (iI (n : Int)), .int (iI sg)]), (ha, ia E 2002 fa), (hc, ia E 2002 fc), (g, ob 6 [.ref gp, .ref gA, .ref gB, .int (iI (c : Int))]), (gp, ia E 140 fp), (gA, la E 141 fA), (gB, la E 141 fB)]) ?_ 0 ?_
  · intro a_ hI_ ih2
    obtain ⟨i, rfl⟩ : ∃ z_, z_ = a_ := ⟨_, rfl⟩
    obtain ⟨hi, hz⟩ := hI_
    replace hi : i ≤ c + 1 := hi
    replace hz : ∀ j_ : Nat, j_ < i → ¬ (fa u * fB j_ + fc u * fA j_ = bsum fa fc fp fA fB c j_) := hz
    show Wx _ _ _ _ _ _ _ _ _ _ _ _ _ _ _ _ 2 [(0, .ref g), (1, .ref h), (2, .int (iI (u : Int))), (3, .int (iI (i : Int)))] [] [(h, ob 7 [.ref hb, .ref ha, .ref hc, .int (iI (n : Int)), .int (iI sg)]), (ha, ia E 2002 fa), (hc, ia E 2002 fc), (g, ob 6 [.ref gp, .ref gA, .ref gB, .int (iI (c : Int))]), (gp, ia E 140 fp), (gA, la E 141 fA), (gB, la E 141 fB)]
    refine x_iload_n (pc' := 3) C 3 dX7_firstEndOf_2 rfl rfl ?_
    refine x_aload_n (pc' := 4) C 0 dX7_firstEndOf_3 rfl rfl ?_
    refine x_get (pc' := 7) C dX7_firstEndOf_4 rfl ff_X7_22_6 3 rfl rfl ?_
    refine x_icmp_gt (pc' := 10) (tgt := 28) C dX7_firstEndOf_7 rfl (by decide) (by omega) (by omega) (fun c7 => ?_) (fun c7 => ?_)
    ·
      refine x_iconst (pc' := 29) C dX7_firstEndOf_28 rfl ?_
      exact x_iret C hr dX7_firstEndOf_29 ⟨(-1), rfl, rfl, (show ((-1) = -1 ∧ ∀ j_ : Nat, j_ ≤ c → ¬ (fa u * fB j_ + fc u * fA j_ = bsum fa fc fp fA fB c j_)) ∨ ∃ i_ : Nat, i_ ≤ c ∧ (-1) = (i_ : Int) ∧ (fa u * fB i_ + fc u * fA i_ = bsum fa fc fp fA fB c i_) ∧ ∀ j_ : Nat, j_ < i_ → ¬ (fa u * fB j_ + fc u * fA j_ = bsum fa fc fp fA fB c j_) from Or.inl ⟨rfl, fun j_ hj => hz j_ (by omega)⟩)⟩
    ·
      refine x_aload_n (pc' := 11) C 0 dX7_firstEndOf_10 rfl rfl ?_
      refine x_aload_n (pc' := 12) C 1 dX7_firstEndOf_11 rfl rfl ?_
      refine x_iload_n (pc' := 13) C 2 dX7_firstEndOf_12 rfl rfl ?_
      refine x_iload_n (pc' := 14) C 3 dX7_firstEndOf_13 rfl rfl ?_
      refine x_callV (pc' := 17) (As := [.ref h, .int (iI (u : Int)), .int (iI (i : Int))]) (rest := []) (q0 := 3) C rfl rfl cv_X7_67_X7 dX7_firstEndOf_14 rfl (c_X7_isBestAtEnd l E h hb ha hc n sg fa fc g gp gA gB c fp fA fB u i (show n ≤ 2002 from by omega) (show 0 < n from by omega) (show ∀ j_ : Nat, j_ < n → -1600 ≤ fa j_ ∧ fa j_ ≤ 1600 from hA) (show ∀ j_ : Nat, j_ < n → -1600 ≤ fc j_ ∧ fc j_ ≤ 1600 from hB) (show sg = 1 ∨ sg = -1 from hsg) (show 0 < c ∧ c ≤ 140 from hcc) (show ∀ j_ : Nat, j_ < c → 0 ≤ fp j_ ∧ fp j_ < (n : Int) from hp) (show ∀ j_ : Nat, j_ ≤ c → (0 ≤ fA j_ ∧ fA j_ ≤ 3200) ∧ (1 ≤ fB j_ ∧ fB j_ ≤ 3200) from hE) (show u < n from by omega) (show i ≤ c from by omega)) mm_X7_isBestAtEnd (hstk := rfl) (hlen := rfl) (hcat := Nat.le_of_ble_eq_true rfl) (isC := [0, 1, 2, 3, 4, 5, 6]) (isR := []) (wr := []) (hC := rfl) (hR := rfl) (hnC := rfl) (hn := rfl) (hdis := by decide) (hR1 := ⟨Nat.le_of_ble_eq_true rfl, Nat.le_of_ble_eq_true rfl⟩) (hcs := ⟨Nat.le_of_ble_eq_true rfl, Nat.le_of_ble_eq_true rfl⟩) (fun v_ w_ hp_ => ?_)
      obtain ⟨rfl, rfl⟩ := hp_
      show Wx _ _ _ _ _ _ _ _ _ _ _ _ _ _ _ _ 17 [(0, .ref g), (1, .ref h), (2, .int (iI (u : Int))), (3, .int (iI (i : Int)))] [.int (iI (bI (fa u * fB i + fc u * fA i = bsum fa fc fp fA fB c i)))] [(h, ob 7 [.ref hb, .ref ha, .ref hc, .int (iI (n : Int)), .int (iI sg)]), (ha, ia E 2002 fa), (hc, ia E 2002 fc), (g, ob 6 [.ref gp, .ref gA, .ref gB, .int (iI (c : Int))]), (gp, ia E 140 fp), (gA, la E 141 fA), (gB, la E 141 fB)]
      refine x_if_eq (pc' := 20) (tgt := 22) C dX7_firstEndOf_17 rfl (by decide) (bI_rng) (fun c17 => ?_) (fun c17 => ?_)
      ·
        replace c17 := bI_z c17
        refine x_iinc (pc' := 25) (lv' := [(3, .int (iI ((i : Int) + 1))), (0, .ref g), (1, .ref h), (2, .int (iI (u : Int)))]) C 3 dX7_firstEndOf_22 rfl (by decide) rfl rfl ?_
        refine x_lvI (lv' := [(3, .int (iI ((i + 1 : Nat) : Int))), (0, .ref g), (1, .ref h), (2, .int (iI (u : Int)))]) 0 rfl (by omega) rfl ?_
        refine x_goto (tgt := 2) C dX7_firstEndOf_25 (by decide) ?_
        refine x_lv [1, 2, 3, 0] rfl ?_
        exact ih2 (i + 1) ⟨(show (i + 1) ≤ c + 1 from by omega), (show ∀ j_ : Nat, j_ < (i + 1) → ¬ (fa u * fB j_ + fc u * fA j_ = bsum fa fc fp fA fB c j_) from ext_step hz c17)⟩ (show c + 1 - (i + 1) < c + 1 - i from by omega)
      ·
        replace c17 := bI_nz c17
        refine x_iload_n (pc' := 21) C 3 dX7_firstEndOf_20 rfl rfl ?_
        exact x_iret C hr dX7_firstEndOf_21 ⟨(i : Int), rfl, rfl, (show ((i : Int) = -1 ∧ ∀ j_ : Nat, j_ ≤ c → ¬ (fa u * fB j_ + fc u * fA j_ = bsum fa fc fp fA fB c j_)) ∨ ∃ i_ : Nat, i_ ≤ c ∧ (i : Int) = (i_ : Int) ∧ (fa u * fB i_ + fc u * fA i_ = bsum fa fc fp fA fB c i_) ∧ ∀ j_ : Nat, j_ < i_ → ¬ (fa u * fB j_ + fc u * fA j_ = bsum fa fc fp fA fB c j_) from Or.inr ⟨i, by omega, rfl, c17, hz⟩)⟩
  · exact ⟨(show 0 ≤ c + 1 from by omega), (show ∀ j_ : Nat, j_ < 0 → ¬ (fa u * fB j_ + fc u * fA j_ = bsum fa fc fp fA fB c j_) from fun j_ h => absurd h (Nat.not_lt_zero _))⟩

set_option maxHeartbeats 4000000 in
set_option maxRecDepth 100000 in
theorem c_X7_lastEndOf (l : Launch) (E : EV) (h : Nat) (hb : Nat) (ha : Nat) (hc : Nat) (n : Nat) (sg : Int) (fa : Nat → Int) (fc : Nat → Int) (g : Nat) (gp : Nat) (gA : Nat) (gB : Nat) (c : Nat) (fp : Nat → Int) (fA : Nat → Int) (fB : Nat → Int) (u : Nat) (hn : n ≤ 2002) (h0 : 0 < n) (hA : ∀ j_ : Nat, j_ < n → -1600 ≤ fa j_ ∧ fa j_ ≤ 1600) (hB : ∀ j_ : Nat, j_ < n → -1600 ≤ fc j_ ∧ fc j_ ≤ 1600) (hsg : sg = 1 ∨ sg = -1) (hcc : 0 < c ∧ c ≤ 140) (hp : ∀ j_ : Nat, j_ < c → 0 ≤ fp j_ ∧ fp j_ < (n : Int)) (hE : ∀ j_ : Nat, j_ ≤ c → (0 ≤ fA j_ ∧ fA j_ ≤ 3200) ∧ (1 ≤ fB j_ ∧ fB j_ ≤ 3200)) (hu : u < n) : MC l E yX7_lastEndOf cX7_lastEndOf 4 (some .int) ({ frames := 3, cells := 0, slots := 0, locals := 86 }) [.ref g, .ref h, .int (iI (u : Int))] [(h, ob 7 [.ref hb, .ref ha, .ref hc, .int (iI (n : Int)), .int (iI sg)]), (ha, ia E 2002 fa), (hc, ia E 2002 fc), (g, ob 6 [.ref gp, .ref gA, .ref gB, .int (iI (c : Int))]), (gp, ia E 140 fp), (gA, la E 141 fA), (gB, la E 141 fB)] (fun v_ w_ => ∃ (r : Int), v_ = some (.int (iI r)) ∧ w_ = [(h, ob 7 [.ref hb, .ref ha, .ref hc, .int (iI (n : Int)), .int (iI sg)]), (ha, ia E 2002 fa), (hc, ia E 2002 fc), (g, ob 6 [.ref gp, .ref gA, .ref gB, .int (iI (c : Int))]), (gp, ia E 140 fp), (gA, la E 141 fA), (gB, la E 141 fB)] ∧ ((r = -1 ∧ ∀ j_ : Nat, j_ ≤ c → ¬ (fa u * fB j_ + fc u * fA j_ = bsum fa fc fp fA fB c j_)) ∨ ∃ i_ : Nat, i_ ≤ c ∧ r = (i_ : Int) ∧ (fa u * fB i_ + fc u * fA i_ = bsum fa fc fp fA fB c i_) ∧ ∀ j_ : Nat, i_ < j_ → j_ ≤ c → ¬ (fa u * fB j_ + fc u * fA j_ = bsum fa fc fp fA fB c j_))) := by
  refine MC.of (by decide +kernel) (Nat.le_of_ble_eq_true rfl) ?_
  intro p_ e_ s_ m_ args_ below_ meth_ c_ A_ C hr hnm
  have C : Cx p_ s_ m_ args_ meth_ c_ E A_ 4 cX7_lastEndOf RX7 := C
  show Wx _ _ _ _ _ _ _ _ _ _ _ _ _ _ _ _ 0 [(0, .ref g), (1, .ref h), (2, .int (iI (u : Int)))] [] [(h, ob 7 [.ref hb, .ref ha, .ref hc, .int (iI (n : Int)), .int (iI sg)]), (ha, ia E 2002 fa), (hc, ia E 2002 fc), (g, ob 6 [.ref gp, .ref gA, .ref gB, .int (iI (c : Int))]), (gp, ia E 140 fp), (gA, la E 141 fA), (gB, la E 141 fB)]
  refine x_aload_n (pc' := 1) C 0 dX7_lastEndOf_0 rfl rfl ?_
  refine x_get (pc' := 4) C dX7_lastEndOf_1 rfl ff_X7_22_6 3 rfl rfl ?_
  refine x_istore_n (pc' := 5) (lv' := [(3, .int (iI (c : Int))), (0, .ref g), (1, .ref h), (2, .int (iI (u : Int)))]) C dX7_lastEndOf_4 rfl (by decide) rfl ?_
  refine x_lv [1, 2, 3, 0] rfl ?_
  refine x_loop (α := Int) (fun a_ => (-1 ≤ a_ ∧ a_ ≤ (c : Int)) ∧ (∀ j_ : Nat, a_ < (j_ : Int) → j_ ≤ c → ¬ (fa u * fB j_ + fc u * fA j_ = bsum fa fc fp fA fB c j_))) (fun a_ => (a_ + 1).toNat) (fun a_ => [(0, .ref g), (1, .ref h), (2, .int (iI (u : Int))), (3, .int (iI a_))]) (fun a_ => [(h, ob 7 [.ref hb, .ref ha, .ref hc, .int (iI (n : Int)), .int (iI sg)]), (ha, ia E 2002 fa), (hc, ia E 2002 fc), (g, ob 6 [.ref gp, .ref gA, .ref gB, .int (iI (c : Int))]), (gp, ia E 140 fp), (gA, la E 141 fA), (gB, la E 141 fB)]) ?_ (c : Int) ?_
  · intro a_ hI_ ih5
    obtain ⟨i, rfl⟩ : ∃ z_, z_ = a_ := ⟨_, rfl⟩
    obtain ⟨hi, hz⟩ := hI_
    replace hi : -1 ≤ i ∧ i ≤ (c : Int) := hi
    replace hz : ∀ j_ : Nat, i < (j_ : Int) → j_ ≤ c → ¬ (fa u * fB j_ + fc u * fA j_ = bsum fa fc fp fA fB c j_) := hz
    show Wx _ _ _ _ _ _ _ _ _ _ _ _ _ _ _ _ 5 [(0, .ref g), (1, .ref h), (2, .int (iI (u : Int))), (3, .int (iI i))] [] [(h, ob 7 [.ref hb, .ref ha, .ref hc, .int (iI (n : Int)), .int (iI sg)]), (ha, ia E 2002 fa), (hc, ia E 2002 fc), (g, ob 6 [.ref gp, .ref gA, .ref gB, .int (iI (c : Int))]), (gp, ia E 140 fp), (gA, la E 141 fA), (gB, la E 141 fB)]
    refine x_iload_n (pc' := 6) C 3 dX7_lastEndOf_5 rfl rfl ?_
    refine x_if_lt (pc' := 9) (tgt := 27) C dX7_lastEndOf_6 rfl (by decide) (by omega) (fun c6 => ?_) (fun c6 => ?_)
    ·
      refine x_iconst (pc' := 28) C dX7_lastEndOf_27 rfl ?_
      exact x_iret C hr dX7_lastEndOf_28 ⟨(-1), rfl, rfl, (show ((-1) = -1 ∧ ∀ j_ : Nat, j_ ≤ c → ¬ (fa u * fB j_ + fc u * fA j_ = bsum fa fc fp fA fB c j_)) ∨ ∃ i_ : Nat, i_ ≤ c ∧ (-1) = (i_ : Int) ∧ (fa u * fB i_ + fc u * fA i_ = bsum fa fc fp fA fB c i_) ∧ ∀ j_ : Nat, i_ < j_ → j_ ≤ c → ¬ (fa u * fB j_ + fc u * fA j_ = bsum fa fc fp fA fB c j_) from Or.inl ⟨rfl, fun j_ hj => hz j_ (by omega) hj⟩)⟩
    ·
      refine x_aload_n (pc' := 10) C 0 dX7_lastEndOf_9 rfl rfl ?_
      refine x_aload_n (pc' := 11) C 1 dX7_lastEndOf_10 rfl rfl ?_
      refine x_iload_n (pc' := 12) C 2 dX7_lastEndOf_11 rfl rfl ?_
      refine x_iload_n (pc' := 13) C 3 dX7_lastEndOf_12 rfl rfl ?_
      refine x_stI (st' := [.int (iI (i.toNat : Int)), .int (iI (u : Int)), .ref h, .ref g]) 0 rfl (by omega) rfl ?_
      refine x_callV (pc' := 16) (As := [.ref h, .int (iI (u : Int)), .int (iI (i.toNat : Int))]) (rest := []) (q0 := 3) C rfl rfl cv_X7_67_X7 dX7_lastEndOf_13 rfl (c_X7_isBestAtEnd l E h hb ha hc n sg fa fc g gp gA gB c fp fA fB u i.toNat (show n ≤ 2002 from by omega) (show 0 < n from by omega) (show ∀ j_ : Nat, j_ < n → -1600 ≤ fa j_ ∧ fa j_ ≤ 1600 from hA) (show ∀ j_ : Nat, j_ < n → -1600 ≤ fc j_ ∧ fc j_ ≤ 1600 from hB) (show sg = 1 ∨ sg = -1 from hsg) (show 0 < c ∧ c ≤ 140 from hcc) (show ∀ j_ : Nat, j_ < c → 0 ≤ fp j_ ∧ fp j_ < (n : Int) from hp) (show ∀ j_ : Nat, j_ ≤ c → (0 ≤ fA j_ ∧ fA j_ ≤ 3200) ∧ (1 ≤ fB j_ ∧ fB j_ ≤ 3200) from hE) (show u < n from by omega) (show i.toNat ≤ c from by omega)) mm_X7_isBestAtEnd (hstk := rfl) (hlen := rfl) (hcat := Nat.le_of_ble_eq_true rfl) (isC := [0, 1, 2, 3, 4, 5, 6]) (isR := []) (wr := []) (hC := rfl) (hR := rfl) (hnC := rfl) (hn := rfl) (hdis := by decide) (hR1 := ⟨Nat.le_of_ble_eq_true rfl, Nat.le_of_ble_eq_true rfl⟩) (hcs := ⟨Nat.le_of_ble_eq_true rfl, Nat.le_of_ble_eq_true rfl⟩) (fun v_ w_ hp_ => ?_)
      obtain ⟨rfl, rfl⟩ := hp_
      show Wx _ _ _ _ _ _ _ _ _ _ _ _ _ _ _ _ 16 [(0, .ref g), (1, .ref h), (2, .int (iI (u : Int))), (3, .int (iI i))] [.int (iI (bI (fa u * fB i.toNat + fc u * fA i.toNat = bsum fa fc fp fA fB c i.toNat)))] [(h, ob 7 [.ref hb, .ref ha, .ref hc, .int (iI (n : Int)), .int (iI sg)]), (ha, ia E 2002 fa), (hc, ia E 2002 fc), (g, ob 6 [.ref gp, .ref gA, .ref gB, .int (iI (c : Int))]), (gp, ia E 140 fp), (gA, la E 141 fA), (gB, la E 141 fB)]
      refine x_if_eq (pc' := 19) (tgt := 21) C dX7_lastEndOf_16 rfl (by decide) (bI_rng) (fun c16 => ?_) (fun c16 => ?_)
      ·
        replace c16 := bI_z c16
        refine x_iinc (pc' := 24) (lv' := [(3, .int (iI (i + (-1)))), (0, .ref g), (1, .ref h), (2, .int (iI (u : Int)))]) C 3 dX7_lastEndOf_21 rfl (by decide) rfl rfl ?_
        refine x_goto (tgt := 5) C dX7_lastEndOf_24 (by decide) ?_
        refine x_lv [1, 2, 3, 0] rfl ?_
        exact ih5 (i + (-1)) ⟨(show -1 ≤ (i + (-1)) ∧ (i + (-1)) ≤ (c : Int) from by omega), (show ∀ j_ : Nat, (i + (-1)) < (j_ : Int) → j_ ≤ c → ¬ (fa u * fB j_ + fc u * fA j_ = bsum fa fc fp fA fB c j_) from last_step hz c16 (by omega))⟩ (show ((i + (-1)) + 1).toNat < (i + 1).toNat from by omega)
      ·
        replace c16 := bI_nz c16
        refine x_iload_n (pc' := 20) C 3 dX7_lastEndOf_19 rfl rfl ?_
        exact x_iret C hr dX7_lastEndOf_20 ⟨i, rfl, rfl, (show (i = -1 ∧ ∀ j_ : Nat, j_ ≤ c → ¬ (fa u * fB j_ + fc u * fA j_ = bsum fa fc fp fA fB c j_)) ∨ ∃ i_ : Nat, i_ ≤ c ∧ i = (i_ : Int) ∧ (fa u * fB i_ + fc u * fA i_ = bsum fa fc fp fA fB c i_) ∧ ∀ j_ : Nat, i_ < j_ → j_ ≤ c → ¬ (fa u * fB j_ + fc u * fA j_ = bsum fa fc fp fA fB c j_) from Or.inr ⟨i.toNat, by omega, by omega, c16, fun j_ h1 h2 => hz j_ (by omega) h2⟩)⟩
  · exact ⟨(show -1 ≤ (c : Int) ∧ (c : Int) ≤ (c : Int) from by omega), (show ∀ j_ : Nat, (c : Int) < (j_ : Int) → j_ ≤ c → ¬ (fa u * fB j_ + fc u * fA j_ = bsum fa fc fp fA fB c j_) from fun j_ h1 h2 => absurd h1 (by omega))⟩

set_option maxHeartbeats 4000000 in
set_option maxRecDepth 100000 in
theorem c_X7_cutUp (l : Launch) (E : EV) (h : Nat) (hb : Nat) (ha : Nat) (hc : Nat) (n : Nat) (sg : Int) (fa : Nat → Int) (fc : Nat → Int) (g : Nat) (gp : Nat) (gA : Nat) (gB : Nat) (c : Nat) (fp : Nat → Int) (fA : Nat → Int) (fB : Nat → Int) (T : Int) (hn : n ≤ 2002) (h0 : 0 < n) (hA : ∀ j_ : Nat, j_ < n → -1600 ≤ fa j_ ∧ fa j_ ≤ 1600) (hB : ∀ j_ : Nat, j_ < n → -1600 ≤ fc j_ ∧ fc j_ ≤ 1600) (hsg : sg = 1 ∨ sg = -1) (hT : 1 ≤ T ∧ T ≤ 100) (h140 : (pseq (fun q_ => sg * fa q_) (fun q_ => sg * fc q_) n T 140).1 = -1) : MC l E yX7_cutUp cX7_cutUp 4 (none) ({ frames := 2, cells := 0, slots := 0, locals := 60 }) [.ref g, .ref h, .int (iI T)] [(h, ob 7 [.ref hb, .ref ha, .ref hc, .int (iI (n : Int)), .int (iI sg)]), (ha, ia E 2002 fa), (hc, ia E 2002 fc), (g, ob 6 [.ref gp, .ref gA, .ref gB, .int (iI (c : Int))]), (gp, ia E 140 fp), (gA, la E 141 fA), (gB, la E 141 fB)] (fun v_ w_ => ∃ (c2 : Nat) (fp2 : Nat → Int) (fA2 : Nat → Int) (fB2 : Nat → Int), v_ = none ∧ w_ = [(h, ob 7 [.ref hb, .ref ha, .ref hc, .int (iI (n : Int)), .int (iI sg)]), (ha, ia E 2002 fa), (hc, ia E 2002 fc), (g, ob 6 [.ref gp, .ref gA, .ref gB, .int (iI (c2 : Int))]), (gp, ia E 140 fp2), (gA, la E 141 fA2), (gB, la E 141 fB2)] ∧ (0 < c2 ∧ c2 ≤ 140) ∧ ((pseq (fun q_ => sg * fa q_) (fun q_ => sg * fc q_) n T c2).1 = -1) ∧ (∀ j_ : Nat, j_ < c2 → (pseq (fun q_ => sg * fa q_) (fun q_ => sg * fc q_) n T j_).1 ≠ -1) ∧ (∀ j_ : Nat, j_ < c2 → fp2 j_ = (pseq (fun q_ => sg * fa q_) (fun q_ => sg * fc q_) n T j_).1 ∧ fA2 j_ = (pseq (fun q_ => sg * fa q_) (fun q_ => sg * fc q_) n T j_).2.1 ∧ fB2 j_ = (pseq (fun q_ => sg * fa q_) (fun q_ => sg * fc q_) n T j_).2.2) ∧ (fA2 c2 = T ∧ fB2 c2 = 1)) := by
  refine MC.of (by decide +kernel) (Nat.le_of_ble_eq_true rfl) ?_
  intro p_ e_ s_ m_ args_ below_ meth_ c_ A_ C hr hnm
  have C : Cx p_ s_ m_ args_ meth_ c_ E A_ 4 cX7_cutUp RX7 := C
  show Wx _ _ _ _ _ _ _ _ _ _ _ _ _ _ _ _ 0 [(0, .ref g), (1, .ref h), (2, .int (iI T))] [] [(h, ob 7 [.ref hb, .ref ha, .ref hc, .int (iI (n : Int)), .int (iI sg)]), (ha, ia E 2002 fa), (hc, ia E 2002 fc), (g, ob 6 [.ref gp, .ref gA, .ref gB, .int (iI (c : Int))]), (gp, ia E 140 fp), (gA, la E 141 fA), (gB, la E 141 fB)]
  refine x_aload_n (pc' := 1) C 0 dX7_cutUp_0 rfl rfl ?_
  refine x_iconst (pc' := 2) C dX7_cutUp_1 rfl ?_
  refine x_put (pc' := 5) (ws' := [(h, ob 7 [.ref hb, .ref ha, .ref hc, .int (iI (n : Int)), .int (iI sg)]), (ha, ia E 2002 fa), (hc, ia E 2002 fc), (g, ob 6 [.ref gp, .ref gA, .ref gB, .int (iI 0)]), (gp, ia E 140 fp), (gA, la E 141 fA), (gB, la E 141 fB)]) C dX7_cutUp_2 rfl pf_X7_22_6 3 rfl rfl rfl (Nat.le_of_ble_eq_true rfl) rfl ?_
  refine x_aload_n (pc' := 6) C 1 dX7_cutUp_5 rfl rfl ?_
  refine x_get (pc' := 9) C dX7_cutUp_6 rfl ff_X7_26_7 0 rfl rfl ?_
  refine x_if_ne (pc' := 12) (tgt := 13) C dX7_cutUp_9 rfl (by decide) (by omega) (fun c9 => ?_) (fun c9 => ?_)
  ·
    refine x_aload_n (pc' := 14) C 0 dX7_cutUp_13 rfl rfl ?_
    refine x_iconst (pc' := 15) C dX7_cutUp_14 rfl ?_
    refine x_lconst (pc' := 16) (z := 0) C dX7_cutUp_15 rfl rfl ?_
    refine x_lconst (pc' := 17) (z := 1) C dX7_cutUp_16 rfl rfl ?_
    refine x_callV (pc' := 20) (As := [.int (iI 0), .long (lI 0), .long (lI 1)]) (rest := []) (q0 := 0) C rfl rfl cv_X7_29_X7 dX7_cutUp_17 rfl (c_X7_setEnd l E g gp gA gB 0 0 fA fB 0 1 (show 0 < 141 from by omega)) mm_X7_setEnd (hstk := rfl) (hlen := rfl) (hcat := Nat.le_of_ble_eq_true rfl) (isC := [3, 5, 6]) (isR := [0, 1, 2, 4]) (wr := [(h, ob 7 [.ref hb, .ref ha, .ref hc, .int (iI (n : Int)), .int (iI sg)]), (ha, ia E 2002 fa), (hc, ia E 2002 fc), (gp, ia E 140 fp)]) (hC := rfl) (hR := rfl) (hnC := rfl) (hn := rfl) (hdis := by decide) (hR1 := ⟨Nat.le_of_ble_eq_true rfl, Nat.le_of_ble_eq_true rfl⟩) (hcs := ⟨Nat.le_of_ble_eq_true rfl, Nat.le_of_ble_eq_true rfl⟩) (fun v_ w_ hp_ => ?_)
    obtain ⟨rfl, rfl⟩ := hp_
    show Wx _ _ _ _ _ _ _ _ _ _ _ _ _ _ _ _ 20 [(0, .ref g), (1, .ref h), (2, .int (iI T))] [] [(h, ob 7 [.ref hb, .ref ha, .ref hc, .int (iI (n : Int)), .int (iI sg)]), (ha, ia E 2002 fa), (hc, ia E 2002 fc), (gp, ia E 140 fp), (g, ob 6 [.ref gp, .ref gA, .ref gB, .int (iI 0)]), (gA, la E 141 (va_up fA 0 0)), (gB, la E 141 (va_up fB 0 1))]
    refine x_sub (ws' := [(h, ob 7 [.ref hb, .ref ha, .ref hc, .int (iI (n : Int)), .int (iI sg)]), (ha, ia E 2002 fa), (hc, ia E 2002 fc), (g, ob 6 [.ref gp, .ref gA, .ref gB, .int (iI 0)]), (gp, ia E 140 fp), (gA, la E 141 (va_up fA 0 0)), (gB, la E 141 (va_up fB 0 1))]) [0, 1, 2, 4, 3, 5, 6] rfl rfl ?_
    refine x_aload_n (pc' := 21) C 1 dX7_cutUp_20 rfl rfl ?_
    refine x_callS (pc' := 24) (As := [.ref h]) (rest := []) C cs_X7_33 dX7_cutUp_21 rfl (c_X7_firstPlan l E h hb ha hc n sg fa fc (show n ≤ 2002 from by omega) (show 0 < n from by omega) (show ∀ j_ : Nat, j_ < n → -1600 ≤ fa j_ ∧ fa j_ ≤ 1600 from hA) (show ∀ j_ : Nat, j_ < n → -1600 ≤ fc j_ ∧ fc j_ ≤ 1600 from hB) (show sg = 1 ∨ sg = -1 from hsg)) mm_X7_firstPlan (hstk := rfl) (hlen := rfl) (hcat := Nat.le_of_ble_eq_true rfl) (isC := [0, 1, 2]) (isR := [3, 4, 5, 6]) (wr := [(g, ob 6 [.ref gp, .ref gA, .ref gB, .int (iI 0)]), (gp, ia E 140 fp), (gA, la E 141 (va_up fA 0 0)), (gB, la E 141 (va_up fB 0 1))]) (hC := rfl) (hR := rfl) (hnC := rfl) (hn := rfl) (hdis := by decide) (hR1 := ⟨Nat.le_of_ble_eq_true rfl, Nat.le_of_ble_eq_true rfl⟩) (hcs := ⟨Nat.le_of_ble_eq_true rfl, Nat.le_of_ble_eq_true rfl⟩) (fun v_ w_ hp_ => ?_)
    obtain ⟨rfl, rfl⟩ := hp_
    show Wx _ _ _ _ _ _ _ _ _ _ _ _ _ _ _ _ 24 [(0, .ref g), (1, .ref h), (2, .int (iI T))] [.int (iI ((fpl (fun q_ => sg * fa q_) (fun q_ => sg * fc q_) n : Nat) : Int))] [(g, ob 6 [.ref gp, .ref gA, .ref gB, .int (iI 0)]), (gp, ia E 140 fp), (gA, la E 141 (va_up fA 0 0)), (gB, la E 141 (va_up fB 0 1)), (h, ob 7 [.ref hb, .ref ha, .ref hc, .int (iI (n : Int)), .int (iI sg)]), (ha, ia E 2002 fa), (hc, ia E 2002 fc)]
    refine x_sub (ws' := [(h, ob 7 [.ref hb, .ref ha, .ref hc, .int (iI (n : Int)), .int (iI sg)]), (ha, ia E 2002 fa), (hc, ia E 2002 fc), (g, ob 6 [.ref gp, .ref gA, .ref gB, .int (iI 0)]), (gp, ia E 140 fp), (gA, la E 141 (va_up fA 0 0)), (gB, la E 141 (va_up fB 0 1))]) [4, 5, 6, 0, 1, 2, 3] rfl rfl ?_
    refine x_istore_n (pc' := 25) (lv' := [(3, .int (iI ((fpl (fun q_ => sg * fa q_) (fun q_ => sg * fc q_) n : Nat) : Int))), (0, .ref g), (1, .ref h), (2, .int (iI T))]) C dX7_cutUp_24 rfl (by decide) rfl ?_
    refine x_lv [1, 2, 3, 0] rfl ?_
    refine x_loop (α := (Nat) × (Int) × (Nat → Int) × (Nat → Int) × (Nat → Int)) (fun a_ => (a_.1 ≤ 140) ∧ (a_.2.1 = (pseq (fun q_ => sg * fa q_) (fun q_ => sg * fc q_) n T a_.1).1) ∧ (-1 ≤ a_.2.1 ∧ a_.2.1 < (n : Int)) ∧ (∀ j_ : Nat, j_ < a_.1 → a_.2.2.1 j_ = (pseq (fun q_ => sg * fa q_) (fun q_ => sg * fc q_) n T j_).1 ∧ (pseq (fun q_ => sg * fa q_) (fun q_ => sg * fc q_) n T j_).1 ≠ -1) ∧ (∀ j_ : Nat, j_ < a_.1 → a_.2.2.2.1 j_ = (pseq (fun q_ => sg * fa q_) (fun q_ => sg * fc q_) n T j_).2.1 ∧ a_.2.2.2.2 j_ = (pseq (fun q_ => sg * fa q_) (fun q_ => sg * fc q_) n T j_).2.2) ∧ (a_.2.1 ≠ -1 → a_.2.2.2.1 a_.1 = (pseq (fun q_ => sg * fa q_) (fun q_ => sg * fc q_) n T a_.1).2.1 ∧ a_.2.2.2.2 a_.1 = (pseq (fun q_ => sg * fa q_) (fun q_ => sg * fc q_) n T a_.1).2.2) ∧ (a_.1 = 0 → a_.2.1 ≠ -1)) (fun a_ => 140 - a_.1) (fun a_ => [(0, .ref g), (1, .ref h), (2, .int (iI T)), (3, .int (iI a_.2.1))]) (fun a_ => [(h, ob 7 [.ref hb, .ref ha, .ref hc, .int (iI (n : Int)), .int (iI sg)]), (ha, ia E 2002 fa), (hc, ia E 2002 fc), (g, ob 6 [.ref gp, .ref gA, .ref gB, .int (iI (a_.1 : Int))]), (gp, ia E 140 a_.2.2.1), (gA, la E 141 a_.2.2.2.1), (gB, la E 141 a_.2.2.2.2)]) ?_ (0, ((fpl (fun q_ => sg * fa q_) (fun q_ => sg * fc q_) n : Nat) : Int), fp, (va_up fA 0 0), (va_up fB 0 1)) ?_
    · intro a_ hI_ ih25
      obtain ⟨i, x, f1, A1, B1⟩ := a_
      obtain ⟨hi, hx, hxr, hfa, hb_, hd, h1⟩ := hI_
      replace hi : i ≤ 140 := hi
      replace hx : x = (pseq (fun q_ => sg * fa q_) (fun q_ => sg * fc q_) n T i).1 := hx
      replace hxr : -1 ≤ x ∧ x < (n : Int) := hxr
      replace hfa : ∀ j_ : Nat, j_ < i → f1 j_ = (pseq (fun q_ => sg * fa q_) (fun q_ => sg * fc q_) n T j_).1 ∧ (pseq (fun q_ => sg * fa q_) (fun q_ => sg * fc q_) n T j_).1 ≠ -1 := hfa
      replace hb_ : ∀ j_ : Nat, j_ < i → A1 j_ = (pseq (fun q_ => sg * fa q_) (fun q_ => sg * fc q_) n T j_).2.1 ∧ B1 j_ = (pseq (fun q_ => sg * fa q_) (fun q_ => sg * fc q_) n T j_).2.2 := hb_
      replace hd : x ≠ -1 → A1 i = (pseq (fun q_ => sg * fa q_) (fun q_ => sg * fc q_) n T i).2.1 ∧ B1 i = (pseq (fun q_ => sg * fa q_) (fun q_ => sg * fc q_) n T i).2.2 := hd
      replace h1 : i = 0 → x ≠ -1 := h1
      show Wx _ _ _ _ _ _ _ _ _ _ _ _ _ _ _ _ 25 [(0, .ref g), (1, .ref h), (2, .int (iI T)), (3, .int (iI x))] [] [(h, ob 7 [.ref hb, .ref ha, .ref hc, .int (iI (n : Int)), .int (iI sg)]), (ha, ia E 2002 fa), (hc, ia E 2002 fc), (g, ob 6 [.ref gp, .ref gA, .ref gB, .int (iI (i : Int))]), (gp, ia E 140 f1), (gA, la E 141 A1), (gB, la E 141 B1)]
      refine x_iload_n (pc' := 26) C 3 dX7_cutUp_25 rfl rfl ?_
      refine x_iconst (pc' := 27) C dX7_cutUp_26 rfl ?_
      refine x_icmp_eq (pc' := 30) (tgt := 71) C dX7_cutUp_27 rfl (by decide) (by omega) (by omega) (fun c27 => ?_) (fun c27 => ?_)
      ·
        refine x_aload_n (pc' := 72) C 0 dX7_cutUp_71 rfl rfl ?_
        refine x_aload_n (pc' := 73) C 0 dX7_cutUp_72 rfl rfl ?_
        refine x_get (pc' := 76) C dX7_cutUp_73 rfl ff_X7_22_6 3 rfl rfl ?_
        refine x_iload_n (pc' := 77) C 2 dX7_cutUp_76 rfl rfl ?_
        refine x_i2l (pc' := 78) C dX7_cutUp_77 rfl (by omega) ?_
        refine x_lconst (pc' := 79) (z := 1) C dX7_cutUp_78 rfl rfl ?_
        refine x_callV (pc' := 82) (As := [.int (iI (i : Int)), .long (lI T), .long (lI 1)]) (rest := []) (q0 := 0) C rfl rfl cv_X7_29_X7 dX7_cutUp_79 rfl (c_X7_setEnd l E g gp gA gB i i A1 B1 T 1 (show i < 141 from by omega)) mm_X7_setEnd (hstk := rfl) (hlen := rfl) (hcat := Nat.le_of_ble_eq_true rfl) (isC := [3, 5, 6]) (isR := [0, 1, 2, 4]) (wr := [(h, ob 7 [.ref hb, .ref ha, .ref hc, .int (iI (n : Int)), .int (iI sg)]), (ha, ia E 2002 fa), (hc, ia E 2002 fc), (gp, ia E 140 f1)]) (hC := rfl) (hR := rfl) (hnC := rfl) (hn := rfl) (hdis := by decide) (hR1 := ⟨Nat.le_of_ble_eq_true rfl, Nat.le_of_ble_eq_true rfl⟩) (hcs := ⟨Nat.le_of_ble_eq_true rfl, Nat.le_of_ble_eq_true rfl⟩) (fun v_ w_ hp_ => ?_)
        obtain ⟨rfl, rfl⟩ := hp_
        show Wx _ _ _ _ _ _ _ _ _ _ _ _ _ _ _ _ 82 [(0, .ref g), (1, .ref h), (2, .int (iI T)), (3, .int (iI x))] [] [(h, ob 7 [.ref hb, .ref ha, .ref hc, .int (iI (n : Int)), .int (iI sg)]), (ha, ia E 2002 fa), (hc, ia E 2002 fc), (gp, ia E 140 f1), (g, ob 6 [.ref gp, .ref gA, .ref gB, .int (iI (i : Int))]), (gA, la E 141 (va_up A1 i T)), (gB, la E 141 (va_up B1 i 1))]
        refine x_sub (ws' := [(h, ob 7 [.ref hb, .ref ha, .ref hc, .int (iI (n : Int)), .int (iI sg)]), (ha, ia E 2002 fa), (hc, ia E 2002 fc), (g, ob 6 [.ref gp, .ref gA, .ref gB, .int (iI (i : Int))]), (gp, ia E 140 f1), (gA, la E 141 (va_up A1 i T)), (gB, la E 141 (va_up B1 i 1))]) [0, 1, 2, 4, 3, 5, 6] rfl rfl ?_
        exact x_vret C hr dX7_cutUp_82 ⟨i, f1, (va_up A1 i T), (va_up B1 i 1), rfl, rfl, (show 0 < i ∧ i ≤ 140 from cut_c hi h1 hx h140 (by first | exact Or.inl c27 | exact Or.inr (by omega))), (show (pseq (fun q_ => sg * fa q_) (fun q_ => sg * fc q_) n T i).1 = -1 from cut_e hi hx h140 (by first | exact Or.inl c27 | exact Or.inr (by omega))), (show ∀ j_ : Nat, j_ < i → (pseq (fun q_ => sg * fa q_) (fun q_ => sg * fc q_) n T j_).1 ≠ -1 from fun j_ hj => (hfa j_ hj).2), (show ∀ j_ : Nat, j_ < i → f1 j_ = (pseq (fun q_ => sg * fa q_) (fun q_ => sg * fc q_) n T j_).1 ∧ (va_up A1 i T) j_ = (pseq (fun q_ => sg * fa q_) (fun q_ => sg * fc q_) n T j_).2.1 ∧ (va_up B1 i 1) j_ = (pseq (fun q_ => sg * fa q_) (fun q_ => sg * fc q_) n T j_).2.2 from cut_a hfa hb_), (show (va_up A1 i T) i = T ∧ (va_up B1 i 1) i = 1 from ⟨by simp [va_up], by simp [va_up]⟩)⟩
      ·
        refine x_aload_n (pc' := 31) C 0 dX7_cutUp_30 rfl rfl ?_
        refine x_get (pc' := 34) C dX7_cutUp_31 rfl ff_X7_22_6 3 rfl rfl ?_
        refine x_sipush (pc' := 37) C dX7_cutUp_34 rfl rfl ?_
        refine x_icmp_ge (pc' := 40) (tgt := 71) C dX7_cutUp_37 rfl (by decide) (by omega) (by omega) (fun c37 => ?_) (fun c37 => ?_)
        ·
          refine x_aload_n (pc' := 72) C 0 dX7_cutUp_71 rfl rfl ?_
          refine x_aload_n (pc' := 73) C 0 dX7_cutUp_72 rfl rfl ?_
          refine x_get (pc' := 76) C dX7_cutUp_73 rfl ff_X7_22_6 3 rfl rfl ?_
          refine x_iload_n (pc' := 77) C 2 dX7_cutUp_76 rfl rfl ?_
          refine x_i2l (pc' := 78) C dX7_cutUp_77 rfl (by omega) ?_
          refine x_lconst (pc' := 79) (z := 1) C dX7_cutUp_78 rfl rfl ?_
          refine x_callV (pc' := 82) (As := [.int (iI (i : Int)), .long (lI T), .long (lI 1)]) (rest := []) (q0 := 0) C rfl rfl cv_X7_29_X7 dX7_cutUp_79 rfl (c_X7_setEnd l E g gp gA gB i i A1 B1 T 1 (show i < 141 from by omega)) mm_X7_setEnd (hstk := rfl) (hlen := rfl) (hcat := Nat.le_of_ble_eq_true rfl) (isC := [3, 5, 6]) (isR := [0, 1, 2, 4]) (wr := [(h, ob 7 [.ref hb, .ref ha, .ref hc, .int (iI (n : Int)), .int (iI sg)]), (ha, ia E 2002 fa), (hc, ia E 2002 fc), (gp, ia E 140 f1)]) (hC := rfl) (hR := rfl) (hnC := rfl) (hn := rfl) (hdis := by decide) (hR1 := ⟨Nat.le_of_ble_eq_true rfl, Nat.le_of_ble_eq_true rfl⟩) (hcs := ⟨Nat.le_of_ble_eq_true rfl, Nat.le_of_ble_eq_true rfl⟩) (fun v_ w_ hp_ => ?_)
          obtain ⟨rfl, rfl⟩ := hp_
          show Wx _ _ _ _ _ _ _ _ _ _ _ _ _ _ _ _ 82 [(0, .ref g), (1, .ref h), (2, .int (iI T)), (3, .int (iI x))] [] [(h, ob 7 [.ref hb, .ref ha, .ref hc, .int (iI (n : Int)), .int (iI sg)]), (ha, ia E 2002 fa), (hc, ia E 2002 fc), (gp, ia E 140 f1), (g, ob 6 [.ref gp, .ref gA, .ref gB, .int (iI (i : Int))]), (gA, la E 141 (va_up A1 i T)), (gB, la E 141 (va_up B1 i 1))]
          refine x_sub (ws' := [(h, ob 7 [.ref hb, .ref ha, .ref hc, .int (iI (n : Int)), .int (iI sg)]), (ha, ia E 2002 fa), (hc, ia E 2002 fc), (g, ob 6 [.ref gp, .ref gA, .ref gB, .int (iI (i : Int))]), (gp, ia E 140 f1), (gA, la E 141 (va_up A1 i T)), (gB, la E 141 (va_up B1 i 1))]) [0, 1, 2, 4, 3, 5, 6] rfl rfl ?_
          exact x_vret C hr dX7_cutUp_82 ⟨i, f1, (va_up A1 i T), (va_up B1 i 1), rfl, rfl, (show 0 < i ∧ i ≤ 140 from cut_c hi h1 hx h140 (by first | exact Or.inl c27 | exact Or.inr (by omega))), (show (pseq (fun q_ => sg * fa q_) (fun q_ => sg * fc q_) n T i).1 = -1 from cut_e hi hx h140 (by first | exact Or.inl c27 | exact Or.inr (by omega))), (show ∀ j_ : Nat, j_ < i → (pseq (fun q_ => sg * fa q_) (fun q_ => sg * fc q_) n T j_).1 ≠ -1 from fun j_ hj => (hfa j_ hj).2), (show ∀ j_ : Nat, j_ < i → f1 j_ = (pseq (fun q_ => sg * fa q_) (fun q_ => sg * fc q_) n T j_).1 ∧ (va_up A1 i T) j_ = (pseq (fun q_ => sg * fa q_) (fun q_ => sg * fc q_) n T j_).2.1 ∧ (va_up B1 i 1) j_ = (pseq (fun q_ => sg * fa q_) (fun q_ => sg * fc q_) n T j_).2.2 from cut_a hfa hb_), (show (va_up A1 i T) i = T ∧ (va_up B1 i 1) i = 1 from ⟨by simp [va_up], by simp [va_up]⟩)⟩
        ·
          refine x_aload_n (pc' := 41) C 0 dX7_cutUp_40 rfl rfl ?_
          refine x_get (pc' := 44) C dX7_cutUp_41 rfl ff_X7_11_6 3 rfl rfl ?_
          refine x_aload_n (pc' := 45) C 0 dX7_cutUp_44 rfl rfl ?_
          refine x_get (pc' := 48) C dX7_cutUp_45 rfl ff_X7_22_6 3 rfl rfl ?_
          refine x_iload_n (pc' := 49) C 3 dX7_cutUp_48 rfl rfl ?_
          refine x_iast (pc' := 50) (ws' := [(h, ob 7 [.ref hb, .ref ha, .ref hc, .int (iI (n : Int)), .int (iI sg)]), (ha, ia E 2002 fa), (hc, ia E 2002 fc), (g, ob 6 [.ref gp, .ref gA, .ref gB, .int (iI (i : Int))]), (gp, ia E 140 (va_up f1 i x)), (gA, la E 141 A1), (gB, la E 141 B1)]) C i dX7_cutUp_49 rfl 4 rfl (by omega) (by omega) (by omega) rfl ?_
          refine x_aload_n (pc' := 51) C 0 dX7_cutUp_50 rfl rfl ?_
          refine x_dup (pc' := 52) C dX7_cutUp_51 rfl rfl ?_
          refine x_get (pc' := 55) C dX7_cutUp_52 rfl ff_X7_22_6 3 rfl rfl ?_
          refine x_iconst (pc' := 56) C dX7_cutUp_55 rfl ?_
          refine x_iadd (pc' := 57) C dX7_cutUp_56 rfl ?_
          refine x_top (b := .int (iI ((i + 1 : Nat) : Int))) (rfl) ?_
          refine x_put (pc' := 60) (ws' := [(h, ob 7 [.ref hb, .ref ha, .ref hc, .int (iI (n : Int)), .int (iI sg)]), (ha, ia E 2002 fa), (hc, ia E 2002 fc), (g, ob 6 [.ref gp, .ref gA, .ref gB, .int (iI ((i + 1 : Nat) : Int))]), (gp, ia E 140 (va_up f1 i x)), (gA, la E 141 A1), (gB, la E 141 B1)]) C dX7_cutUp_57 rfl pf_X7_22_6 3 rfl rfl rfl (Nat.le_of_ble_eq_true rfl) rfl ?_
          refine x_aload_n (pc' := 61) C 0 dX7_cutUp_60 rfl rfl ?_
          refine x_aload_n (pc' := 62) C 1 dX7_cutUp_61 rfl rfl ?_
          refine x_iload_n (pc' := 63) C 3 dX7_cutUp_62 rfl rfl ?_
          refine x_iload_n (pc' := 64) C 2 dX7_cutUp_63 rfl rfl ?_
          refine x_stI (st' := [.int (iI T), .int (iI (x.toNat : Int)), .ref h, .ref g]) 1 rfl (by omega) rfl ?_
          refine x_callV (pc' := 67) (As := [.ref h, .int (iI (x.toNat : Int)), .int (iI T)]) (rest := []) (q0 := 3) C rfl rfl cv_X7_37_X7 dX7_cutUp_64 rfl (c_X7_nextPlan l E h hb ha hc n sg fa fc g gp gA gB (i + 1) A1 B1 x.toNat T (show n ≤ 2002 from by omega) (show 0 < n from by omega) (show ∀ j_ : Nat, j_ < n → -1600 ≤ fa j_ ∧ fa j_ ≤ 1600 from hA) (show ∀ j_ : Nat, j_ < n → -1600 ≤ fc j_ ∧ fc j_ ≤ 1600 from hB) (show sg = 1 ∨ sg = -1 from hsg) (show x.toNat < n from by omega) (show 1 ≤ T ∧ T ≤ 100 from by omega) (show (i + 1) < 141 from by omega)) mm_X7_nextPlan (hstk := rfl) (hlen := rfl) (hcat := Nat.le_of_ble_eq_true rfl) (isC := [0, 1, 2, 3, 5, 6]) (isR := [4]) (wr := [(gp, ia E 140 (va_up f1 i x))]) (hC := rfl) (hR := rfl) (hnC := rfl) (hn := rfl) (hdis := by decide) (hR1 := ⟨Nat.le_of_ble_eq_true rfl, Nat.le_of_ble_eq_true rfl⟩) (hcs := ⟨Nat.le_of_ble_eq_true rfl, Nat.le_of_ble_eq_true rfl⟩) (fun v_ w_ hp_ => ?_)
          obtain ⟨r_64, y2_64, z2_64, fA2_64, fB2_64, rfl, rfl, g64_s, g64_a⟩ := hp_
          replace g64_s : (r_64, y2_64, z2_64) = nxs (fun q_ => (sg * fa q_) - (sg * fa x.toNat)) (fun q_ => (sg * fc x.toNat) - (sg * fc q_)) T n := g64_s
          replace g64_a : (r_64 = -1 ∧ fA2_64 = A1 ∧ fB2_64 = B1) ∨ (r_64 ≠ -1 ∧ fA2_64 = va_up A1 (i + 1) y2_64 ∧ fB2_64 = va_up B1 (i + 1) z2_64) := g64_a
          show Wx _ _ _ _ _ _ _ _ _ _ _ _ _ _ _ _ 67 [(0, .ref g), (1, .ref h), (2, .int (iI T)), (3, .int (iI x))] [.int (iI r_64)] [(gp, ia E 140 (va_up f1 i x)), (h, ob 7 [.ref hb, .ref ha, .ref hc, .int (iI (n : Int)), .int (iI sg)]), (ha, ia E 2002 fa), (hc, ia E 2002 fc), (g, ob 6 [.ref gp, .ref gA, .ref gB, .int (iI ((i + 1 : Nat) : Int))]), (gA, la E 141 fA2_64), (gB, la E 141 fB2_64)]
          refine x_sub (ws' := [(h, ob 7 [.ref hb, .ref ha, .ref hc, .int (iI (n : Int)), .int (iI sg)]), (ha, ia E 2002 fa), (hc, ia E 2002 fc), (g, ob 6 [.ref gp, .ref gA, .ref gB, .int (iI ((i + 1 : Nat) : Int))]), (gp, ia E 140 (va_up f1 i x)), (gA, la E 141 fA2_64), (gB, la E 141 fB2_64)]) [1, 2, 3, 4, 0, 5, 6] rfl rfl ?_
          have hnx := cut_next (w := x.toNat) (show (pseq (fun q_ => sg * fa q_) (fun q_ => sg * fc q_) n T i).1 = ((x.toNat : Nat) : Int) by omega) g64_s
          have hnr := cut_rng h0 (i + 1) hnx
          refine x_istore_n (pc' := 68) (lv' := [(3, .int (iI r_64)), (0, .ref g), (1, .ref h), (2, .int (iI T))]) C dX7_cutUp_67 rfl (by decide) rfl ?_
          refine x_goto (tgt := 25) C dX7_cutUp_68 (by decide) ?_
          refine x_lv [1, 2, 3, 0] rfl ?_
          exact ih25 ((i + 1), r_64, (va_up f1 i x), fA2_64, fB2_64) ⟨(show (i + 1) ≤ 140 from by omega), (show r_64 = (pseq (fun q_ => sg * fa q_) (fun q_ => sg * fc q_) n T (i + 1)).1 from hnx.1), (show -1 ≤ r_64 ∧ r_64 < (n : Int) from hnr), (show ∀ j_ : Nat, j_ < (i + 1) → (va_up f1 i x) j_ = (pseq (fun q_ => sg * fa q_) (fun q_ => sg * fc q_) n T j_).1 ∧ (pseq (fun q_ => sg * fa q_) (fun q_ => sg * fc q_) n T j_).1 ≠ -1 from cut_ha hfa hx c27), (show ∀ j_ : Nat, j_ < (i + 1) → fA2_64 j_ = (pseq (fun q_ => sg * fa q_) (fun q_ => sg * fc q_) n T j_).2.1 ∧ fB2_64 j_ = (pseq (fun q_ => sg * fa q_) (fun q_ => sg * fc q_) n T j_).2.2 from cut_hb hb_ (hd c27) g64_a), (show r_64 ≠ -1 → fA2_64 (i + 1) = (pseq (fun q_ => sg * fa q_) (fun q_ => sg * fc q_) n T (i + 1)).2.1 ∧ fB2_64 (i + 1) = (pseq (fun q_ => sg * fa q_) (fun q_ => sg * fc q_) n T (i + 1)).2.2 from cut_hd hnx g64_a), (show (i + 1) = 0 → r_64 ≠ -1 from fun h => absurd h (by omega))⟩ (show 140 - (i + 1) < 140 - i from by omega)
    · exact ⟨(show 0 ≤ 140 from by omega), (show ((fpl (fun q_ => sg * fa q_) (fun q_ => sg * fc q_) n : Nat) : Int) = (pseq (fun q_ => sg * fa q_) (fun q_ => sg * fc q_) n T 0).1 from rfl), (show -1 ≤ ((fpl (fun q_ => sg * fa q_) (fun q_ => sg * fc q_) n : Nat) : Int) ∧ ((fpl (fun q_ => sg * fa q_) (fun q_ => sg * fc q_) n : Nat) : Int) < (n : Int) from by have := fpl_lt (A := (fun q_ => sg * fa q_)) (B := (fun q_ => sg * fc q_)) h0; omega), (show ∀ j_ : Nat, j_ < 0 → fp j_ = (pseq (fun q_ => sg * fa q_) (fun q_ => sg * fc q_) n T j_).1 ∧ (pseq (fun q_ => sg * fa q_) (fun q_ => sg * fc q_) n T j_).1 ≠ -1 from fun j_ h => absurd h (Nat.not_lt_zero _)), (show ∀ j_ : Nat, j_ < 0 → (va_up fA 0 0) j_ = (pseq (fun q_ => sg * fa q_) (fun q_ => sg * fc q_) n T j_).2.1 ∧ (va_up fB 0 1) j_ = (pseq (fun q_ => sg * fa q_) (fun q_ => sg * fc q_) n T j_).2.2 from fun j_ h => absurd h (Nat.not_lt_zero _)), (show ((fpl (fun q_ => sg * fa q_) (fun q_ => sg * fc q_) n : Nat) : Int) ≠ -1 → (va_up fA 0 0) 0 = (pseq (fun q_ => sg * fa q_) (fun q_ => sg * fc q_) n T 0).2.1 ∧ (va_up fB 0 1) 0 = (pseq (fun q_ => sg * fa q_) (fun q_ => sg * fc q_) n T 0).2.2 from fun _ => ⟨by simp [va_up, pseq], by simp [va_up, pseq]⟩), (show 0 = 0 → ((fpl (fun q_ => sg * fa q_) (fun q_ => sg * fc q_) n : Nat) : Int) ≠ -1 from fun _ => by omega)⟩
  ·
    exact absurd c9 (by omega)

set_option maxHeartbeats 4000000 in
set_option maxRecDepth 100000 in
theorem c_X7_cutUp_0 (l : Launch) (E : EV) (h : Nat) (hb : Nat) (ha : Nat) (hc : Nat) (n : Nat) (sg : Int) (g : Nat) (gp : Nat) (gA : Nat) (gB : Nat) (c : Nat) (T : Int) (hn0 : n = 0) : MC l E yX7_cutUp cX7_cutUp 4 (none) ({ frames := 0, cells := 0, slots := 0, locals := 0 }) [.ref g, .ref h, .int (iI T)] [(h, ob 7 [.ref hb, .ref ha, .ref hc, .int (iI (n : Int)), .int (iI sg)]), (g, ob 6 [.ref gp, .ref gA, .ref gB, .int (iI (c : Int))])] (fun v_ w_ => v_ = none ∧ w_ = [(h, ob 7 [.ref hb, .ref ha, .ref hc, .int (iI (n : Int)), .int (iI sg)]), (g, ob 6 [.ref gp, .ref gA, .ref gB, .int (iI 0)])]) := by
  refine MC.of (by decide +kernel) (Nat.le_of_ble_eq_true rfl) ?_
  intro p_ e_ s_ m_ args_ below_ meth_ c_ A_ C hr hnm
  have C : Cx p_ s_ m_ args_ meth_ c_ E A_ 4 cX7_cutUp RX7 := C
  show Wx _ _ _ _ _ _ _ _ _ _ _ _ _ _ _ _ 0 [(0, .ref g), (1, .ref h), (2, .int (iI T))] [] [(h, ob 7 [.ref hb, .ref ha, .ref hc, .int (iI (n : Int)), .int (iI sg)]), (g, ob 6 [.ref gp, .ref gA, .ref gB, .int (iI (c : Int))])]
  refine x_aload_n (pc' := 1) C 0 dX7_cutUp_0 rfl rfl ?_
  refine x_iconst (pc' := 2) C dX7_cutUp_1 rfl ?_
  refine x_put (pc' := 5) (ws' := [(h, ob 7 [.ref hb, .ref ha, .ref hc, .int (iI (n : Int)), .int (iI sg)]), (g, ob 6 [.ref gp, .ref gA, .ref gB, .int (iI 0)])]) C dX7_cutUp_2 rfl pf_X7_22_6 1 rfl rfl rfl (Nat.le_of_ble_eq_true rfl) rfl ?_
  refine x_aload_n (pc' := 6) C 1 dX7_cutUp_5 rfl rfl ?_
  refine x_get (pc' := 9) C dX7_cutUp_6 rfl ff_X7_26_7 0 rfl rfl ?_
  refine x_if_ne (pc' := 12) (tgt := 13) C dX7_cutUp_9 rfl (by decide) (by omega) (fun c9 => ?_) (fun c9 => ?_)
  ·
    exact absurd c9 (by omega)
  ·
    exact x_vret C hr dX7_cutUp_12 ⟨rfl, rfl⟩
