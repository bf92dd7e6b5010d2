set_option maxHeartbeats 4000000 in
set_option maxRecDepth 100000 in
theorem c_X8_restart (l : Launch) (E : EV) (h : Nat) (hb : Nat) (ha : Nat) (hc : Nat) (n : Nat) (sg : Int) (x : Int)  : MC l E yX8_restart cX8_restart 2 (none) ({ frames := 0, cells := 0, slots := 0, locals := 0 }) [.ref h, .int (iI x)] [(h, ob 7 [.ref hb, .ref ha, .ref hc, .int (iI (n : Int)), .int (iI sg)])] (fun v_ w_ => v_ = none ∧ w_ = [(h, ob 7 [.ref hb, .ref ha, .ref hc, .int (iI 0), .int (iI x)])]) := by
  refine MC.of (by decide +kernel) (Nat.le_of_ble_eq_true rfl) ?_
  intro p_ e_ s_ m_ args_ below_ meth_ c_ A_ C hr hnm
  have C : Cx p_ s_ m_ args_ meth_ c_ E A_ 2 cX8_restart RX8 := C
  show Wx _ _ _ _ _ _ _ _ _ _ _ _ _ _ _ _ 0 [(0, .ref h), (1, .int (iI x))] [] [(h, ob 7 [.ref hb, .ref ha, .ref hc, .int (iI (n : Int)), .int (iI sg)])]
  refine x_aload_n (pc' := 1) C 0 dX8_restart_0 rfl rfl ?_
  refine x_iconst (pc' := 2) C dX8_restart_1 rfl ?_
  refine x_put (pc' := 5) (ws' := [(h, ob 7 [.ref hb, .ref ha, .ref hc, .int (iI 0), .int (iI sg)])]) C dX8_restart_2 rfl pf_X8_21_7 0 rfl rfl rfl (Nat.le_of_ble_eq_true rfl) rfl ?_
  refine x_aload_n (pc' := 6) C 0 dX8_restart_5 rfl rfl ?_
  refine x_iload_n (pc' := 7) C 1 dX8_restart_6 rfl rfl ?_
  refine x_put (pc' := 10) (ws' := [(h, ob 7 [.ref hb, .ref ha, .ref hc, .int (iI 0), .int (iI x)])]) C dX8_restart_7 rfl pf_X8_25_7 0 rfl rfl rfl (Nat.le_of_ble_eq_true rfl) rfl ?_
  exact x_vret C hr dX8_restart_10 ⟨rfl, rfl⟩

set_option maxHeartbeats 4000000 in
set_option maxRecDepth 100000 in
theorem c_X8_insert (l : Launch) (E : EV) (h : Nat) (hb : Nat) (ha : Nat) (hc : Nat) (n : Nat) (S : Nat) (sg : Int) (fb : Nat → Int) (xs : List Nat) (hn : n < 2002) (hS : S < 1000000) (hlen : xs.length = n) (hls : LsA fb xs) (hso : xs.Pairwise (· ≤ ·)) (hbd : ∀ j (h : j < xs.length), xs[j] < 1000000) : MC l E yX8_insert cX8_insert 3 (none) ({ frames := 0, cells := 0, slots := 0, locals := 0 }) [.ref h, .int (iI (S : Int))] [(h, ob 7 [.ref hb, .ref ha, .ref hc, .int (iI (n : Int)), .int (iI sg)]), (hb, ia E 2002 fb)] (fun v_ w_ => ∃ (fb2 : Nat → Int) (xs2 : List Nat), v_ = none ∧ w_ = [(h, ob 7 [.ref hb, .ref ha, .ref hc, .int (iI ((n + 1 : Nat) : Int)), .int (iI sg)]), (hb, ia E 2002 fb2)] ∧ (xs2.length = n + 1) ∧ (LsA fb2 xs2) ∧ (xs2.Pairwise (· ≤ ·)) ∧ (xs2.Perm (S :: xs))) := by
  refine MC.of (by decide +kernel) (Nat.le_of_ble_eq_true rfl) ?_
  intro p_ e_ s_ m_ args_ below_ meth_ c_ A_ C hr hnm
  have C : Cx p_ s_ m_ args_ meth_ c_ E A_ 3 cX8_insert RX8 := C
  show Wx _ _ _ _ _ _ _ _ _ _ _ _ _ _ _ _ 0 [(0, .ref h), (1, .int (iI (S : Int)))] [] [(h, ob 7 [.ref hb, .ref ha, .ref hc, .int (iI (n : Int)), .int (iI sg)]), (hb, ia E 2002 fb)]
  refine x_aload_n (pc' := 1) C 0 dX8_insert_0 rfl rfl ?_
  refine x_get (pc' := 4) C dX8_insert_1 rfl ff_X8_21_7 0 rfl rfl ?_
  refine x_sipush (pc' := 7) C dX8_insert_4 rfl rfl ?_
  refine x_icmp_lt (pc' := 10) (tgt := 11) C dX8_insert_7 rfl (by decide) (by omega) (by omega) (fun c7 => ?_) (fun c7 => ?_)
  ·
    refine x_aload_n (pc' := 12) C 0 dX8_insert_11 rfl rfl ?_
    refine x_get (pc' := 15) C dX8_insert_12 rfl ff_X8_21_7 0 rfl rfl ?_
    refine x_istore_n (pc' := 16) (lv' := [(2, .int (iI (n : Int))), (0, .ref h), (1, .int (iI (S : Int)))]) C dX8_insert_15 rfl (by decide) rfl ?_
    refine x_lv [1, 2, 0] rfl ?_
    refine x_loop (α := (Nat) × (Nat → Int)) (fun a_ => (a_.1 ≤ n) ∧ (∀ j : Nat, j ≤ a_.1 → j < n → a_.2 j = fb j) ∧ (∀ j : Nat, a_.1 < j → j ≤ n → a_.2 j = fb (j - 1)) ∧ (∀ j (h : j < xs.length), a_.1 ≤ j → S < xs[j])) (fun a_ => a_.1) (fun a_ => [(0, .ref h), (1, .int (iI (S : Int))), (2, .int (iI (a_.1 : Int)))]) (fun a_ => [(h, ob 7 [.ref hb, .ref ha, .ref hc, .int (iI (n : Int)), .int (iI sg)]), (hb, ia E 2002 a_.2)]) ?_ (n, fb) ?_
    · intro a_ hI_ ih16
      obtain ⟨i, g⟩ := a_
      obtain ⟨hi, h1, h2, h3⟩ := hI_
      replace hi : i ≤ n := hi
      replace h1 : ∀ j : Nat, j ≤ i → j < n → g j = fb j := h1
      replace h2 : ∀ j : Nat, i < j → j ≤ n → g j = fb (j - 1) := h2
      replace h3 : ∀ j (h : j < xs.length), i ≤ j → S < xs[j] := h3
      show Wx _ _ _ _ _ _ _ _ _ _ _ _ _ _ _ _ 16 [(0, .ref h), (1, .int (iI (S : Int))), (2, .int (iI (i : Int)))] [] [(h, ob 7 [.ref hb, .ref ha, .ref hc, .int (iI (n : Int)), .int (iI sg)]), (hb, ia E 2002 g)]
      refine x_iload_n (pc' := 17) C 2 dX8_insert_16 rfl rfl ?_
      refine x_if_le (pc' := 20) (tgt := 52) C dX8_insert_17 rfl (by decide) (by omega) (fun c17 => ?_) (fun c17 => ?_)
      ·
        refine x_aload_n (pc' := 53) C 0 dX8_insert_52 rfl rfl ?_
        refine x_get (pc' := 56) C dX8_insert_53 rfl ff_X8_11_7 0 rfl rfl ?_
        refine x_iload_n (pc' := 57) C 2 dX8_insert_56 rfl rfl ?_
        refine x_iload_n (pc' := 58) C 1 dX8_insert_57 rfl rfl ?_
        refine x_iast (pc' := 59) (ws' := [(h, ob 7 [.ref hb, .ref ha, .ref hc, .int (iI (n : Int)), .int (iI sg)]), (hb, ia E 2002 (va_up g i (S : Int)))]) C i dX8_insert_58 rfl 1 rfl (by omega) (by omega) (by omega) rfl ?_
        refine x_aload_n (pc' := 60) C 0 dX8_insert_59 rfl rfl ?_
        refine x_dup (pc' := 61) C dX8_insert_60 rfl rfl ?_
        refine x_get (pc' := 64) C dX8_insert_61 rfl ff_X8_21_7 0 rfl rfl ?_
        refine x_iconst (pc' := 65) C dX8_insert_64 rfl ?_
        refine x_iadd (pc' := 66) C dX8_insert_65 rfl ?_
        refine x_put (pc' := 69) (ws' := [(h, ob 7 [.ref hb, .ref ha, .ref hc, .int (iI ((n : Int) + 1)), .int (iI sg)]), (hb, ia E 2002 (va_up g i (S : Int)))]) C dX8_insert_66 rfl pf_X8_21_7 0 rfl rfl rfl (Nat.le_of_ble_eq_true rfl) rfl ?_
        refine x_ws (ws' := [(h, ob 7 [.ref hb, .ref ha, .ref hc, .int (iI ((n + 1 : Nat) : Int)), .int (iI sg)]), (hb, ia E 2002 (va_up g i (S : Int)))]) (by first | rfl | (congr 5 <;> omega) | simp) ?_
        exact x_vret C hr dX8_insert_69 ⟨(va_up g i (S : Int)), (xs.insertIdx i S), rfl, rfl, (show (xs.insertIdx i S).length = n + 1 from by rw [List.length_insertIdx_of_le_length (by omega)]; omega), (show LsA (va_up g i (S : Int)) (xs.insertIdx i S) from ins_LsA hls hlen hi h1 h2), (show (xs.insertIdx i S).Pairwise (· ≤ ·) from ins_sorted hso (by omega) h3 (ins_le hso (by first | exact Or.inl (by omega) | exact Or.inr ⟨hx_, by omega⟩))), (show (xs.insertIdx i S).Perm (S :: xs) from List.perm_insertIdx S xs (by omega))⟩
      ·
        have hx_ : i - 1 < xs.length := by omega
        have hb1 := hbd (i - 1) hx_
        have hl1 := hls (i - 1) hx_
        have hg1 := h1 (i - 1) (by omega) (by omega)
        refine x_aload_n (pc' := 21) C 0 dX8_insert_20 rfl rfl ?_
        refine x_get (pc' := 24) C dX8_insert_21 rfl ff_X8_11_7 0 rfl rfl ?_
        refine x_iload_n (pc' := 25) C 2 dX8_insert_24 rfl rfl ?_
        refine x_iconst (pc' := 26) C dX8_insert_25 rfl ?_
        refine x_isub (pc' := 27) C dX8_insert_26 rfl ?_
        refine x_iald (pc' := 28) C (i - 1) dX8_insert_27 rfl 1 rfl (by omega) (by omega) (by omega) ?_
        refine x_top (b := .int (iI ((xs[i - 1] : Nat) : Int))) (by rw [hg1, hl1]) ?_
        refine x_iload_n (pc' := 29) C 1 dX8_insert_28 rfl rfl ?_
        refine x_icmp_le (pc' := 32) (tgt := 52) C dX8_insert_29 rfl (by decide) (by omega) (by omega) (fun c29 => ?_) (fun c29 => ?_)
        ·
          refine x_aload_n (pc' := 53) C 0 dX8_insert_52 rfl rfl ?_
          refine x_get (pc' := 56) C dX8_insert_53 rfl ff_X8_11_7 0 rfl rfl ?_
          refine x_iload_n (pc' := 57) C 2 dX8_insert_56 rfl rfl ?_
          refine x_iload_n (pc' := 58) C 1 dX8_insert_57 rfl rfl ?_
          refine x_iast (pc' := 59) (ws' := [(h, ob 7 [.ref hb, .ref ha, .ref hc, .int (iI (n : Int)), .int (iI sg)]), (hb, ia E 2002 (va_up g i (S : Int)))]) C i dX8_insert_58 rfl 1 rfl (by omega) (by omega) (by omega) rfl ?_
          refine x_aload_n (pc' := 60) C 0 dX8_insert_59 rfl rfl ?_
          refine x_dup (pc' := 61) C dX8_insert_60 rfl rfl ?_
          refine x_get (pc' := 64) C dX8_insert_61 rfl ff_X8_21_7 0 rfl rfl ?_
          refine x_iconst (pc' := 65) C dX8_insert_64 rfl ?_
          refine x_iadd (pc' := 66) C dX8_insert_65 rfl ?_
          refine x_put (pc' := 69) (ws' := [(h, ob 7 [.ref hb, .ref ha, .ref hc, .int (iI ((n : Int) + 1)), .int (iI sg)]), (hb, ia E 2002 (va_up g i (S : Int)))]) C dX8_insert_66 rfl pf_X8_21_7 0 rfl rfl rfl (Nat.le_of_ble_eq_true rfl) rfl ?_
          refine x_ws (ws' := [(h, ob 7 [.ref hb, .ref ha, .ref hc, .int (iI ((n + 1 : Nat) : Int)), .int (iI sg)]), (hb, ia E 2002 (va_up g i (S : Int)))]) (by first | rfl | (congr 5 <;> omega) | simp) ?_
          exact x_vret C hr dX8_insert_69 ⟨(va_up g i (S : Int)), (xs.insertIdx i S), rfl, rfl, (show (xs.insertIdx i S).length = n + 1 from by rw [List.length_insertIdx_of_le_length (by omega)]; omega), (show LsA (va_up g i (S : Int)) (xs.insertIdx i S) from ins_LsA hls hlen hi h1 h2), (show (xs.insertIdx i S).Pairwise (· ≤ ·) from ins_sorted hso (by omega) h3 (ins_le hso (by first | exact Or.inl (by omega) | exact Or.inr ⟨hx_, by omega⟩))), (show (xs.insertIdx i S).Perm (S :: xs) from List.perm_insertIdx S xs (by omega))⟩
        ·
          refine x_aload_n (pc' := 33) C 0 dX8_insert_32 rfl rfl ?_
          refine x_get (pc' := 36) C dX8_insert_33 rfl ff_X8_11_7 0 rfl rfl ?_
          refine x_iload_n (pc' := 37) C 2 dX8_insert_36 rfl rfl ?_
          refine x_aload_n (pc' := 38) C 0 dX8_insert_37 rfl rfl ?_
          refine x_get (pc' := 41) C dX8_insert_38 rfl ff_X8_11_7 0 rfl rfl ?_
          refine x_iload_n (pc' := 42) C 2 dX8_insert_41 rfl rfl ?_
          refine x_iconst (pc' := 43) C dX8_insert_42 rfl ?_
          refine x_isub (pc' := 44) C dX8_insert_43 rfl ?_
          refine x_iald (pc' := 45) C (i - 1) dX8_insert_44 rfl 1 rfl (by omega) (by omega) (by omega) ?_
          refine x_top (b := .int (iI ((xs[i - 1] : Nat) : Int))) (by rw [hg1, hl1]) ?_
          refine x_iast (pc' := 46) (ws' := [(h, ob 7 [.ref hb, .ref ha, .ref hc, .int (iI (n : Int)), .int (iI sg)]), (hb, ia E 2002 (va_up g i ((xs[i - 1] : Nat) : Int)))]) C i dX8_insert_45 rfl 1 rfl (by omega) (by omega) (by omega) rfl ?_
          refine x_iinc (pc' := 49) (lv' := [(2, .int (iI ((i : Int) + (-1)))), (0, .ref h), (1, .int (iI (S : Int)))]) C 2 dX8_insert_46 rfl (by decide) rfl rfl ?_
          refine x_goto (tgt := 16) C dX8_insert_49 (by decide) ?_
          refine x_lv [1, 2, 0] rfl ?_
          refine x_lvI (lv' := [(0, .ref h), (1, .int (iI (S : Int))), (2, .int (iI ((i - 1 : Nat) : Int)))]) 2 rfl (by omega) rfl ?_
          exact ih16 ((i - 1), (va_up g i ((xs[i - 1] : Nat) : Int))) ⟨(show (i - 1) ≤ n from by omega), (show ∀ j : Nat, j ≤ (i - 1) → j < n → (va_up g i ((xs[i - 1] : Nat) : Int)) j = fb j from ins_h1 (by omega) h1), (show ∀ j : Nat, (i - 1) < j → j ≤ n → (va_up g i ((xs[i - 1] : Nat) : Int)) j = fb (j - 1) from ins_h2 hl1.symm h2), (show ∀ j (h : j < xs.length), (i - 1) ≤ j → S < xs[j] from ins_h3 h3 hx_ (by omega))⟩ (show (i - 1) < i from by omega)
    · exact ⟨(show n ≤ n from by omega), (show ∀ j : Nat, j ≤ n → j < n → fb j = fb j from fun j _ _ => rfl), (show ∀ j : Nat, n < j → j ≤ n → fb j = fb (j - 1) from fun j a b => absurd a (by omega)), (show ∀ j (h : j < xs.length), n ≤ j → S < xs[j] from fun j h a => absurd h (by omega))⟩
  ·
    exact absurd c7 (by omega)

set_option maxHeartbeats 4000000 in
set_option maxRecDepth 100000 in
theorem c_X8_sumAt (l : Launch) (E : EV) (h : Nat) (hb : Nat) (ha : Nat) (hc : Nat) (n : Nat) (j : Nat) (sg : Int) (x : Int) (y : Int) (fa : Nat → Int) (fc : Nat → Int) (hj : j < 2002) (hA : -1600 ≤ fa j ∧ fa j ≤ 1600) (hB : -1600 ≤ fc j ∧ fc j ≤ 1600) : MC l E yX8_sumAt cX8_sumAt 6 (some .long) ({ frames := 0, cells := 0, slots := 0, locals := 0 }) [.ref h, .int (iI (j : Int)), .long (lI x), .long (lI y)] [(h, ob 7 [.ref hb, .ref ha, .ref hc, .int (iI (n : Int)), .int (iI sg)]), (ha, ia E 2002 fa), (hc, ia E 2002 fc)] (fun v_ w_ => v_ = some (.long (lI ((fa j) * y + (fc j) * x))) ∧ w_ = [(h, ob 7 [.ref hb, .ref ha, .ref hc, .int (iI (n : Int)), .int (iI sg)]), (ha, ia E 2002 fa), (hc, ia E 2002 fc)]) := by
  refine MC.of (by decide +kernel) (Nat.le_of_ble_eq_true rfl) ?_
  intro p_ e_ s_ m_ args_ below_ meth_ c_ A_ C hr hnm
  have C : Cx p_ s_ m_ args_ meth_ c_ E A_ 6 cX8_sumAt RX8 := C
  show Wx _ _ _ _ _ _ _ _ _ _ _ _ _ _ _ _ 0 [(0, .ref h), (1, .int (iI (j : Int))), (2, .long (lI x)), (4, .long (lI y))] [] [(h, ob 7 [.ref hb, .ref ha, .ref hc, .int (iI (n : Int)), .int (iI sg)]), (ha, ia E 2002 fa), (hc, ia E 2002 fc)]
  refine x_aload_n (pc' := 1) C 0 dX8_sumAt_0 rfl rfl ?_
  refine x_get (pc' := 4) C dX8_sumAt_1 rfl ff_X8_15_7 0 rfl rfl ?_
  refine x_iload_n (pc' := 5) C 1 dX8_sumAt_4 rfl rfl ?_
  refine x_iald (pc' := 6) C j dX8_sumAt_5 rfl 1 rfl (by omega) (by omega) (by omega) ?_
  refine x_i2l (pc' := 7) C dX8_sumAt_6 rfl (by omega) ?_
  refine x_lload (pc' := 9) C 3 dX8_sumAt_7 rfl rfl ?_
  refine x_lmul (pc' := 10) C dX8_sumAt_9 rfl ?_
  refine x_aload_n (pc' := 11) C 0 dX8_sumAt_10 rfl rfl ?_
  refine x_get (pc' := 14) C dX8_sumAt_11 rfl ff_X8_18_7 0 rfl rfl ?_
  refine x_iload_n (pc' := 15) C 1 dX8_sumAt_14 rfl rfl ?_
  refine x_iald (pc' := 16) C j dX8_sumAt_15 rfl 2 rfl (by omega) (by omega) (by omega) ?_
  refine x_i2l (pc' := 17) C dX8_sumAt_16 rfl (by omega) ?_
  refine x_lload_n (pc' := 18) C 2 dX8_sumAt_17 rfl rfl ?_
  refine x_lmul (pc' := 19) C dX8_sumAt_18 rfl ?_
  refine x_ladd (pc' := 20) C dX8_sumAt_19 rfl ?_
  refine x_top (b := .long (lI ((fa j) * y + (fc j) * x))) (rfl) ?_
  exact x_lret C hr dX8_sumAt_20 ⟨rfl, rfl⟩

set_option maxHeartbeats 4000000 in
set_option maxRecDepth 100000 in
theorem c_X8_costAt (l : Launch) (E : EV) (h : Nat) (hb : Nat) (ha : Nat) (hc : Nat) (n : Nat) (j : Nat) (sg : Int) (x : Int) (y : Int) (fa : Nat → Int) (fc : Nat → Int) (hj : j < 2002) (hA : -1600 ≤ fa j ∧ fa j ≤ 1600) (hB : -1600 ≤ fc j ∧ fc j ≤ 1600) (hsg : sg = 1 ∨ sg = -1) : MC l E yX8_costAt cX8_costAt 6 (some .long) ({ frames := 1, cells := 0, slots := 0, locals := 25 }) [.ref h, .int (iI (j : Int)), .long (lI x), .long (lI y)] [(h, ob 7 [.ref hb, .ref ha, .ref hc, .int (iI (n : Int)), .int (iI sg)]), (ha, ia E 2002 fa), (hc, ia E 2002 fc)] (fun v_ w_ => v_ = some (.long (lI (cst sg fa fc x y j))) ∧ w_ = [(h, ob 7 [.ref hb, .ref ha, .ref hc, .int (iI (n : Int)), .int (iI sg)]), (ha, ia E 2002 fa), (hc, ia E 2002 fc)]) := by
  refine MC.of (by decide +kernel) (Nat.le_of_ble_eq_true rfl) ?_
  intro p_ e_ s_ m_ args_ below_ meth_ c_ A_ C hr hnm
  have C : Cx p_ s_ m_ args_ meth_ c_ E A_ 6 cX8_costAt RX8 := C
  show Wx _ _ _ _ _ _ _ _ _ _ _ _ _ _ _ _ 0 [(0, .ref h), (1, .int (iI (j : Int))), (2, .long (lI x)), (4, .long (lI y))] [] [(h, ob 7 [.ref hb, .ref ha, .ref hc, .int (iI (n : Int)), .int (iI sg)]), (ha, ia E 2002 fa), (hc, ia E 2002 fc)]
  refine x_aload_n (pc' := 1) C 0 dX8_costAt_0 rfl rfl ?_
  refine x_get (pc' := 4) C dX8_costAt_1 rfl ff_X8_25_7 0 rfl rfl ?_
  refine x_i2l (pc' := 5) C dX8_costAt_4 rfl (by omega) ?_
  refine x_aload_n (pc' := 6) C 0 dX8_costAt_5 rfl rfl ?_
  refine x_iload_n (pc' := 7) C 1 dX8_costAt_6 rfl rfl ?_
  refine x_lload_n (pc' := 8) C 2 dX8_costAt_7 rfl rfl ?_
  refine x_lload (pc' := 10) C 3 dX8_costAt_8 rfl rfl ?_
  refine x_callV (pc' := 13) (As := [.int (iI (j : Int)), .long (lI x), .long (lI y)]) (rest := [.long (lI sg)]) (q0 := 0) C rfl rfl cv_X8_37_X8 dX8_costAt_10 rfl (c_X8_sumAt l E h hb ha hc n j sg x y fa fc (show j < 2002 from by omega) (show -1600 ≤ fa j ∧ fa j ≤ 1600 from by omega) (show -1600 ≤ fc j ∧ fc j ≤ 1600 from by omega)) mm_X8_sumAt (hstk := rfl) (hlen := rfl) (hcat := Nat.le_of_ble_eq_true rfl) (isC := [0, 1, 2]) (isR := []) (wr := []) (hC := rfl) (hR := rfl) (hnC := rfl) (hn := rfl) (hdis := by decide) (hR1 := ⟨Nat.le_of_ble_eq_true rfl, Nat.le_of_ble_eq_true rfl⟩) (hcs := ⟨Nat.le_of_ble_eq_true rfl, Nat.le_of_ble_eq_true rfl⟩) (fun v_ w_ hp_ => ?_)
  obtain ⟨rfl, rfl⟩ := hp_
  show Wx _ _ _ _ _ _ _ _ _ _ _ _ _ _ _ _ 13 [(0, .ref h), (1, .int (iI (j : Int))), (2, .long (lI x)), (4, .long (lI y))] [.long (lI ((fa j) * y + (fc j) * x)), .long (lI sg)] [(h, ob 7 [.ref hb, .ref ha, .ref hc, .int (iI (n : Int)), .int (iI sg)]), (ha, ia E 2002 fa), (hc, ia E 2002 fc)]
  refine x_lmul (pc' := 14) C dX8_costAt_13 rfl ?_
  refine x_top (b := .long (lI (cst sg fa fc x y j))) (rfl) ?_
  exact x_lret C hr dX8_costAt_14 ⟨rfl, rfl⟩

set_option maxHeartbeats 4000000 in
set_option maxRecDepth 100000 in
theorem c_X8_cheapestAt (l : Launch) (E : EV) (h : Nat) (hb : Nat) (ha : Nat) (hc : Nat) (n : Nat) (sg : Int) (x : Int) (y : Int) (fa : Nat → Int) (fc : Nat → Int) (hn : n ≤ 2002) (h0 : 0 < n) (hA : ∀ j_ : Nat, j_ < n → -1600 ≤ fa j_ ∧ fa j_ ≤ 1600) (hB : ∀ j_ : Nat, j_ < n → -1600 ≤ fc j_ ∧ fc j_ ≤ 1600) (hsg : sg = 1 ∨ sg = -1) (hx : 0 ≤ x ∧ x ≤ 1000000) (hy : 0 ≤ y ∧ y ≤ 1000000) : MC l E yX8_cheapestAt cX8_cheapestAt 11 (some .int) ({ frames := 2, cells := 0, slots := 0, locals := 50 }) [.ref h, .long (lI x), .long (lI y)] [(h, ob 7 [.ref hb, .ref ha, .ref hc, .int (iI (n : Int)), .int (iI sg)]), (ha, ia E 2002 fa), (hc, ia E 2002 fc)] (fun v_ w_ => v_ = some (.int (iI ((best (cst sg fa fc x y) n : Nat) : Int))) ∧ w_ = [(h, ob 7 [.ref hb, .ref ha, .ref hc, .int (iI (n : Int)), .int (iI sg)]), (ha, ia E 2002 fa), (hc, ia E 2002 fc)]) := by
  refine MC.of (by decide +kernel) (Nat.le_of_ble_eq_true rfl) ?_
  intro p_ e_ s_ m_ args_ below_ meth_ c_ A_ C hr hnm
  have C : Cx p_ s_ m_ args_ meth_ c_ E A_ 11 cX8_cheapestAt RX8 := C
  show Wx _ _ _ _ _ _ _ _ _ _ _ _ _ _ _ _ 0 [(0, .ref h), (1, .long (lI x)), (3, .long (lI y))] [] [(h, ob 7 [.ref hb, .ref ha, .ref hc, .int (iI (n : Int)), .int (iI sg)]), (ha, ia E 2002 fa), (hc, ia E 2002 fc)]
  refine x_iconst (pc' := 1) C dX8_cheapestAt_0 rfl ?_
  refine x_istore (pc' := 3) (lv' := [(5, .int (iI 0)), (0, .ref h), (1, .long (lI x)), (3, .long (lI y))]) C dX8_cheapestAt_1 rfl (by decide) rfl ?_
  refine x_aload_n (pc' := 4) C 1 dX8_cheapestAt_3 rfl rfl ?_
  refine x_iconst (pc' := 5) C dX8_cheapestAt_4 rfl ?_
  refine x_lload_n (pc' := 6) C 2 dX8_cheapestAt_5 rfl rfl ?_
  refine x_lload_n (pc' := 7) C 3 dX8_cheapestAt_6 rfl rfl ?_
  refine x_callV (pc' := 10) (As := [.int (iI 0), .long (lI x), .long (lI y)]) (rest := []) (q0 := 0) C rfl rfl cv_X8_41_X8 dX8_cheapestAt_7 rfl (c_X8_costAt l E h hb ha hc n 0 sg x y fa fc (show 0 < 2002 from by omega) (show -1600 ≤ fa 0 ∧ fa 0 ≤ 1600 from hA 0 (by omega)) (show -1600 ≤ fc 0 ∧ fc 0 ≤ 1600 from hB 0 (by omega)) (show sg = 1 ∨ sg = -1 from hsg)) mm_X8_costAt (hstk := rfl) (hlen := rfl) (hcat := Nat.le_of_ble_eq_true rfl) (isC := [0, 1, 2]) (isR := []) (wr := []) (hC := rfl) (hR := rfl) (hnC := rfl) (hn := rfl) (hdis := by decide) (hR1 := ⟨Nat.le_of_ble_eq_true rfl, Nat.le_of_ble_eq_true rfl⟩) (hcs := ⟨Nat.le_of_ble_eq_true rfl, Nat.le_of_ble_eq_true rfl⟩) (fun v_ w_ hp_ => ?_)
  obtain ⟨rfl, rfl⟩ := hp_
  show Wx _ _ _ _ _ _ _ _ _ _ _ _ _ _ _ _ 10 [(5, .int (iI 0)), (0, .ref h), (1, .long (lI x)), (3, .long (lI y))] [.long (lI (cst sg fa fc x y 0))] [(h, ob 7 [.ref hb, .ref ha, .ref hc, .int (iI (n : Int)), .int (iI sg)]), (ha, ia E 2002 fa), (hc, ia E 2002 fc)]
  refine x_lstore (pc' := 12) (lv' := [(6, .long (lI (cst sg fa fc x y 0))), (5, .int (iI 0)), (0, .ref h), (1, .long (lI x)), (3, .long (lI y))]) C dX8_cheapestAt_10 rfl (by decide) rfl ?_
  refine x_iconst (pc' := 13) C dX8_cheapestAt_12 rfl ?_
  refine x_istore (pc' := 15) (lv' := [(8, .int (iI 1)), (6, .long (lI (cst sg fa fc x y 0))), (5, .int (iI 0)), (0, .ref h), (1, .long (lI x)), (3, .long (lI y))]) C dX8_cheapestAt_13 rfl (by decide) rfl ?_
  refine x_lv [3, 4, 5, 2, 1, 0] rfl ?_
  refine x_loop (α := (Nat) × (Nat) × (Int)) (fun a_ => (1 ≤ a_.1 ∧ a_.1 ≤ n) ∧ (a_.2.1 < n) ∧ (a_.2.1 = best (cst sg fa fc x y) a_.1) ∧ (a_.2.2 = cst sg fa fc x y a_.2.1)) (fun a_ => n - a_.1) (fun a_ => [(0, .ref h), (1, .long (lI x)), (3, .long (lI y)), (5, .int (iI (a_.2.1 : Int))), (6, .long (lI a_.2.2)), (8, .int (iI (a_.1 : Int)))]) (fun a_ => [(h, ob 7 [.ref hb, .ref ha, .ref hc, .int (iI (n : Int)), .int (iI sg)]), (ha, ia E 2002 fa), (hc, ia E 2002 fc)]) ?_ (1, 0, (cst sg fa fc x y 0)) ?_
  · intro a_ hI_ ih15
    obtain ⟨i, j, z⟩ := a_
    obtain ⟨hi, hj, hb_, hz⟩ := hI_
    replace hi : 1 ≤ i ∧ i ≤ n := hi
    replace hj : j < n := hj
    replace hb_ : j = best (cst sg fa fc x y) i := hb_
    replace hz : z = cst sg fa fc x y j := hz
    show Wx _ _ _ _ _ _ _ _ _ _ _ _ _ _ _ _ 15 [(0, .ref h), (1, .long (lI x)), (3, .long (lI y)), (5, .int (iI (j : Int))), (6, .long (lI z)), (8, .int (iI (i : Int)))] [] [(h, ob 7 [.ref hb, .ref ha, .ref hc, .int (iI (n : Int)), .int (iI sg)]), (ha, ia E 2002 fa), (hc, ia E 2002 fc)]
    refine x_iload (pc' := 17) C 5 dX8_cheapestAt_15 rfl rfl ?_
    refine x_aload_n (pc' := 18) C 0 dX8_cheapestAt_17 rfl rfl ?_
    refine x_get (pc' := 21) C dX8_cheapestAt_18 rfl ff_X8_21_7 0 rfl rfl ?_
    refine x_icmp_ge (pc' := 24) (tgt := 59) C dX8_cheapestAt_21 rfl (by decide) (by omega) (by omega) (fun c21 => ?_) (fun c21 => ?_)
    ·
      refine x_iload (pc' := 61) C 3 dX8_cheapestAt_59 rfl rfl ?_
      refine x_top (b := .int (iI ((best (cst sg fa fc x y) n : Nat) : Int))) (by rw [hb_, show i = n by omega]) ?_
      exact x_iret C hr dX8_cheapestAt_61 ⟨rfl, rfl⟩
    ·
      refine x_aload_n (pc' := 25) C 0 dX8_cheapestAt_24 rfl rfl ?_
      refine x_iload (pc' := 27) C 5 dX8_cheapestAt_25 rfl rfl ?_
      refine x_lload_n (pc' := 28) C 1 dX8_cheapestAt_27 rfl rfl ?_
      refine x_lload_n (pc' := 29) C 2 dX8_cheapestAt_28 rfl rfl ?_
      refine x_callV (pc' := 32) (As := [.int (iI (i : Int)), .long (lI x), .long (lI y)]) (rest := []) (q0 := 0) C rfl rfl cv_X8_41_X8 dX8_cheapestAt_29 rfl (c_X8_costAt l E h hb ha hc n i sg x y fa fc (show i < 2002 from by omega) (show -1600 ≤ fa i ∧ fa i ≤ 1600 from hA i (by omega)) (show -1600 ≤ fc i ∧ fc i ≤ 1600 from hB i (by omega)) (show sg = 1 ∨ sg = -1 from hsg)) mm_X8_costAt (hstk := rfl) (hlen := rfl) (hcat := Nat.le_of_ble_eq_true rfl) (isC := [0, 1, 2]) (isR := []) (wr := []) (hC := rfl) (hR := rfl) (hnC := rfl) (hn := rfl) (hdis := by decide) (hR1 := ⟨Nat.le_of_ble_eq_true rfl, Nat.le_of_ble_eq_true rfl⟩) (hcs := ⟨Nat.le_of_ble_eq_true rfl, Nat.le_of_ble_eq_true rfl⟩) (fun v_ w_ hp_ => ?_)
      obtain ⟨rfl, rfl⟩ := hp_
      show Wx _ _ _ _ _ _ _ _ _ _ _ _ _ _ _ _ 32 [(0, .ref h), (1, .long (lI x)), (3, .long (lI y)), (5, .int (iI (j : Int))), (6, .long (lI z)), (8, .int (iI (i : Int)))] [.long (lI (cst sg fa fc x y i))] [(h, ob 7 [.ref hb, .ref ha, .ref hc, .int (iI (n : Int)), .int (iI sg)]), (ha, ia E 2002 fa), (hc, ia E 2002 fc)]
      have hci := cst_bd hsg (hA i (by omega)) (hB i (by omega)) hx hy
      have hcj := cst_bd hsg (hA j (by omega)) (hB j (by omega)) hx hy
      refine x_lstore (pc' := 34) (lv' := [(9, .long (lI (cst sg fa fc x y i))), (0, .ref h), (1, .long (lI x)), (3, .long (lI y)), (5, .int (iI (j : Int))), (6, .long (lI z)), (8, .int (iI (i : Int)))]) C dX8_cheapestAt_32 rfl (by decide) rfl ?_
      refine x_lload (pc' := 36) C 0 dX8_cheapestAt_34 rfl rfl ?_
      refine x_lload (pc' := 38) C 5 dX8_cheapestAt_36 rfl rfl ?_
      refine x_lcmp_lt (pc' := 42) (tgt := 45) C dX8_cheapestAt_38 (pc1 := 39) rfl dX8_cheapestAt_39 rfl (by decide) (by omega) (by omega) (fun c38 => ?_) (fun c38 => ?_)
      ·
        refine x_iload (pc' := 47) C 6 dX8_cheapestAt_45 rfl rfl ?_
        refine x_istore (pc' := 49) (lv' := [(5, .int (iI (i : Int))), (9, .long (lI (cst sg fa fc x y i))), (0, .ref h), (1, .long (lI x)), (3, .long (lI y)), (6, .long (lI z)), (8, .int (iI (i : Int)))]) C dX8_cheapestAt_47 rfl (by decide) rfl ?_
        refine x_lload (pc' := 51) C 1 dX8_cheapestAt_49 rfl rfl ?_
        refine x_lstore (pc' := 53) (lv' := [(6, .long (lI (cst sg fa fc x y i))), (5, .int (iI (i : Int))), (9, .long (lI (cst sg fa fc x y i))), (0, .ref h), (1, .long (lI x)), (3, .long (lI y)), (8, .int (iI (i : Int)))]) C dX8_cheapestAt_51 rfl (by decide) rfl ?_
        refine x_iinc (pc' := 56) (lv' := [(8, .int (iI ((i : Int) + 1))), (6, .long (lI (cst sg fa fc x y i))), (5, .int (iI (i : Int))), (9, .long (lI (cst sg fa fc x y i))), (0, .ref h), (1, .long (lI x)), (3, .long (lI y))]) C 6 dX8_cheapestAt_53 rfl (by decide) rfl rfl ?_
        refine x_lvI (lv' := [(8, .int (iI ((i + 1 : Nat) : Int))), (6, .long (lI (cst sg fa fc x y i))), (5, .int (iI (i : Int))), (9, .long (lI (cst sg fa fc x y i))), (0, .ref h), (1, .long (lI x)), (3, .long (lI y))]) 0 rfl (by omega) rfl ?_
        refine x_goto (tgt := 15) C dX8_cheapestAt_56 (by decide) ?_
        refine x_lv [4, 5, 6, 2, 1, 0] rfl ?_
        exact ih15 ((i + 1), i, (cst sg fa fc x y i)) ⟨(show 1 ≤ (i + 1) ∧ (i + 1) ≤ n from by omega), (show i < n from by omega), (show i = best (cst sg fa fc x y) (i + 1) from by first | exact best_step hb_ hz (by assumption) | exact best_stay hb_ hz (by assumption)), (show (cst sg fa fc x y i) = cst sg fa fc x y i from by first | rfl | exact hz)⟩ (show n - (i + 1) < n - i from by omega)
      ·
        refine x_goto (tgt := 53) C dX8_cheapestAt_42 (by decide) ?_
        refine x_iinc (pc' := 56) (lv' := [(8, .int (iI ((i : Int) + 1))), (9, .long (lI (cst sg fa fc x y i))), (0, .ref h), (1, .long (lI x)), (3, .long (lI y)), (5, .int (iI (j : Int))), (6, .long (lI z))]) C 6 dX8_cheapestAt_53 rfl (by decide) rfl rfl ?_
        refine x_lvI (lv' := [(8, .int (iI ((i + 1 : Nat) : Int))), (9, .long (lI (cst sg fa fc x y i))), (0, .ref h), (1, .long (lI x)), (3, .long (lI y)), (5, .int (iI (j : Int))), (6, .long (lI z))]) 0 rfl (by omega) rfl ?_
        refine x_goto (tgt := 15) C dX8_cheapestAt_56 (by decide) ?_
        refine x_lv [2, 3, 4, 5, 6, 0] rfl ?_
        exact ih15 ((i + 1), j, z) ⟨(show 1 ≤ (i + 1) ∧ (i + 1) ≤ n from by omega), (show j < n from by omega), (show j = best (cst sg fa fc x y) (i + 1) from by first | exact best_step hb_ hz (by assumption) | exact best_stay hb_ hz (by assumption)), (show z = cst sg fa fc x y j from by first | rfl | exact hz)⟩ (show n - (i + 1) < n - i from by omega)
  · exact ⟨(show 1 ≤ 1 ∧ 1 ≤ n from by omega), (show 0 < n from by omega), (show 0 = best (cst sg fa fc x y) 1 from (best_1 _).symm), (show (cst sg fa fc x y 0) = cst sg fa fc x y 0 from rfl)⟩

set_option maxHeartbeats 4000000 in
set_option maxRecDepth 100000 in
theorem c_X8_lossAgainst (l : Launch) (E : EV) (h : Nat) (hb : Nat) (ha : Nat) (hc : Nat) (n : Nat) (u : Nat) (j : Nat) (sg : Int) (t : Int) (fa : Nat → Int) (fc : Nat → Int) (hn : n ≤ 2002) (h0 : 0 < n) (hA : ∀ j_ : Nat, j_ < n → -1600 ≤ fa j_ ∧ fa j_ ≤ 1600) (hB : ∀ j_ : Nat, j_ < n → -1600 ≤ fc j_ ∧ fc j_ ≤ 1600) (hsg : sg = 1 ∨ sg = -1) (hu : u < n) (hj : j < n) (ht : 0 ≤ t ∧ t ≤ 100) : MC l E yX8_lossAgainst cX8_lossAgainst 4 (some .long) ({ frames := 2, cells := 0, slots := 0, locals := 50 }) [.ref h, .int (iI (u : Int)), .int (iI (j : Int)), .int (iI t)] [(h, ob 7 [.ref hb, .ref ha, .ref hc, .int (iI (n : Int)), .int (iI sg)]), (ha, ia E 2002 fa), (hc, ia E 2002 fc)] (fun v_ w_ => v_ = some (.long (lI (cst sg fa fc t 1 j - cst sg fa fc t 1 u))) ∧ w_ = [(h, ob 7 [.ref hb, .ref ha, .ref hc, .int (iI (n : Int)), .int (iI sg)]), (ha, ia E 2002 fa), (hc, ia E 2002 fc)]) := by
  refine MC.of (by decide +kernel) (Nat.le_of_ble_eq_true rfl) ?_
  intro p_ e_ s_ m_ args_ below_ meth_ c_ A_ C hr hnm
  have C : Cx p_ s_ m_ args_ meth_ c_ E A_ 4 cX8_lossAgainst RX8 := C
  show Wx _ _ _ _ _ _ _ _ _ _ _ _ _ _ _ _ 0 [(0, .ref h), (1, .int (iI (u : Int))), (2, .int (iI (j : Int))), (3, .int (iI t))] [] [(h, ob 7 [.ref hb, .ref ha, .ref hc, .int (iI (n : Int)), .int (iI sg)]), (ha, ia E 2002 fa), (hc, ia E 2002 fc)]
  refine x_aload_n (pc' := 1) C 0 dX8_lossAgainst_0 rfl rfl ?_
  refine x_iload_n (pc' := 2) C 2 dX8_lossAgainst_1 rfl rfl ?_
  refine x_iload_n (pc' := 3) C 3 dX8_lossAgainst_2 rfl rfl ?_
  refine x_i2l (pc' := 4) C dX8_lossAgainst_3 rfl (by omega) ?_
  refine x_lconst (pc' := 5) (z := 1) C dX8_lossAgainst_4 rfl rfl ?_
  refine x_callV (pc' := 8) (As := [.int (iI (j : Int)), .long (lI t), .long (lI 1)]) (rest := []) (q0 := 0) C rfl rfl cv_X8_41_X8 dX8_lossAgainst_5 rfl (c_X8_costAt l E h hb ha hc n j sg t 1 fa fc (show j < 2002 from by omega) (show -1600 ≤ fa j ∧ fa j ≤ 1600 from hA j hj) (show -1600 ≤ fc j ∧ fc j ≤ 1600 from hB j hj) (show sg = 1 ∨ sg = -1 from hsg)) mm_X8_costAt (hstk := rfl) (hlen := rfl) (hcat := Nat.le_of_ble_eq_true rfl) (isC := [0, 1, 2]) (isR := []) (wr := []) (hC := rfl) (hR := rfl) (hnC := rfl) (hn := rfl) (hdis := by decide) (hR1 := ⟨Nat.le_of_ble_eq_true rfl, Nat.le_of_ble_eq_true rfl⟩) (hcs := ⟨Nat.le_of_ble_eq_true rfl, Nat.le_of_ble_eq_true rfl⟩) (fun v_ w_ hp_ => ?_)
  obtain ⟨rfl, rfl⟩ := hp_
  show Wx _ _ _ _ _ _ _ _ _ _ _ _ _ _ _ _ 8 [(0, .ref h), (1, .int (iI (u : Int))), (2, .int (iI (j : Int))), (3, .int (iI t))] [.long (lI (cst sg fa fc t 1 j))] [(h, ob 7 [.ref hb, .ref ha, .ref hc, .int (iI (n : Int)), .int (iI sg)]), (ha, ia E 2002 fa), (hc, ia E 2002 fc)]
  refine x_aload_n (pc' := 9) C 0 dX8_lossAgainst_8 rfl rfl ?_
  refine x_iload_n (pc' := 10) C 1 dX8_lossAgainst_9 rfl rfl ?_
  refine x_iload_n (pc' := 11) C 3 dX8_lossAgainst_10 rfl rfl ?_
  refine x_i2l (pc' := 12) C dX8_lossAgainst_11 rfl (by omega) ?_
  refine x_lconst (pc' := 13) (z := 1) C dX8_lossAgainst_12 rfl rfl ?_
  refine x_callV (pc' := 16) (As := [.int (iI (u : Int)), .long (lI t), .long (lI 1)]) (rest := [.long (lI (cst sg fa fc t 1 j))]) (q0 := 0) C rfl rfl cv_X8_41_X8 dX8_lossAgainst_13 rfl (c_X8_costAt l E h hb ha hc n u sg t 1 fa fc (show u < 2002 from by omega) (show -1600 ≤ fa u ∧ fa u ≤ 1600 from hA u hu) (show -1600 ≤ fc u ∧ fc u ≤ 1600 from hB u hu) (show sg = 1 ∨ sg = -1 from hsg)) mm_X8_costAt (hstk := rfl) (hlen := rfl) (hcat := Nat.le_of_ble_eq_true rfl) (isC := [0, 1, 2]) (isR := []) (wr := []) (hC := rfl) (hR := rfl) (hnC := rfl) (hn := rfl) (hdis := by decide) (hR1 := ⟨Nat.le_of_ble_eq_true rfl, Nat.le_of_ble_eq_true rfl⟩) (hcs := ⟨Nat.le_of_ble_eq_true rfl, Nat.le_of_ble_eq_true rfl⟩) (fun v_ w_ hp_ => ?_)
  obtain ⟨rfl, rfl⟩ := hp_
  show Wx _ _ _ _ _ _ _ _ _ _ _ _ _ _ _ _ 16 [(0, .ref h), (1, .int (iI (u : Int))), (2, .int (iI (j : Int))), (3, .int (iI t))] [.long (lI (cst sg fa fc t 1 u)), .long (lI (cst sg fa fc t 1 j))] [(h, ob 7 [.ref hb, .ref ha, .ref hc, .int (iI (n : Int)), .int (iI sg)]), (ha, ia E 2002 fa), (hc, ia E 2002 fc)]
  refine x_lsub (pc' := 17) C dX8_lossAgainst_16 rfl ?_
  refine x_top (b := .long (lI (cst sg fa fc t 1 j - cst sg fa fc t 1 u))) (by congr 2 <;> omega) ?_
  exact x_lret C hr dX8_lossAgainst_17 ⟨rfl, rfl⟩

set_option maxHeartbeats 4000000 in
set_option maxRecDepth 100000 in
theorem c_X8_greatestLoss (l : Launch) (E : EV) (h : Nat) (hb : Nat) (ha : Nat) (hc : Nat) (n : Nat) (u : Nat) (v : Nat) (j : Nat) (sg : Int) (t : Int) (fa : Nat → Int) (fc : Nat → Int) (hn : n ≤ 2002) (h0 : 0 < n) (hA : ∀ j_ : Nat, j_ < n → -1600 ≤ fa j_ ∧ fa j_ ≤ 1600) (hB : ∀ j_ : Nat, j_ < n → -1600 ≤ fc j_ ∧ fc j_ ≤ 1600) (hsg : sg = 1 ∨ sg = -1) (hu : u < n) (hv : v < n) (hj : j < n) (ht : 0 ≤ t ∧ t ≤ 100) : MC l E yX8_greatestLoss cX8_greatestLoss 5 (some .long) ({ frames := 3, cells := 0, slots := 0, locals := 73 }) [.ref h, .int (iI (j : Int)), .int (iI (u : Int)), .int (iI (v : Int)), .int (iI t)] [(h, ob 7 [.ref hb, .ref ha, .ref hc, .int (iI (n : Int)), .int (iI sg)]), (ha, ia E 2002 fa), (hc, ia E 2002 fc)] (fun v_ w_ => v_ = some (.long (lI (max (cst sg fa fc 0 1 j - cst sg fa fc 0 1 u) (cst sg fa fc t 1 j - cst sg fa fc t 1 v)))) ∧ w_ = [(h, ob 7 [.ref hb, .ref ha, .ref hc, .int (iI (n : Int)), .int (iI sg)]), (ha, ia E 2002 fa), (hc, ia E 2002 fc)]) := by
  refine MC.of (by decide +kernel) (Nat.le_of_ble_eq_true rfl) ?_
  intro p_ e_ s_ m_ args_ below_ meth_ c_ A_ C hr hnm
  have C : Cx p_ s_ m_ args_ meth_ c_ E A_ 5 cX8_greatestLoss RX8 := C
  show Wx _ _ _ _ _ _ _ _ _ _ _ _ _ _ _ _ 0 [(0, .ref h), (1, .int (iI (j : Int))), (2, .int (iI (u : Int))), (3, .int (iI (v : Int))), (4, .int (iI t))] [] [(h, ob 7 [.ref hb, .ref ha, .ref hc, .int (iI (n : Int)), .int (iI sg)]), (ha, ia E 2002 fa), (hc, ia E 2002 fc)]
  refine x_aload_n (pc' := 1) C 0 dX8_greatestLoss_0 rfl rfl ?_
  refine x_iload_n (pc' := 2) C 2 dX8_greatestLoss_1 rfl rfl ?_
  refine x_iload_n (pc' := 3) C 1 dX8_greatestLoss_2 rfl rfl ?_
  refine x_iconst (pc' := 4) C dX8_greatestLoss_3 rfl ?_
  refine x_callV (pc' := 7) (As := [.int (iI (u : Int)), .int (iI (j : Int)), .int (iI 0)]) (rest := []) (q0 := 0) C rfl rfl cv_X8_54_X8 dX8_greatestLoss_4 rfl (c_X8_lossAgainst l E h hb ha hc n u j sg 0 fa fc (show n ≤ 2002 from by omega) (show 0 < n from by omega) (show ∀ j_ : Nat, j_ < n → -1600 ≤ fa j_ ∧ fa j_ ≤ 1600 from hA) (show ∀ j_ : Nat, j_ < n → -1600 ≤ fc j_ ∧ fc j_ ≤ 1600 from hB) (show sg = 1 ∨ sg = -1 from hsg) (show u < n from by omega) (show j < n from by omega) (show 0 ≤ 0 ∧ 0 ≤ 100 from by omega)) mm_X8_lossAgainst (hstk := rfl) (hlen := rfl) (hcat := Nat.le_of_ble_eq_true rfl) (isC := [0, 1, 2]) (isR := []) (wr := []) (hC := rfl) (hR := rfl) (hnC := rfl) (hn := rfl) (hdis := by decide) (hR1 := ⟨Nat.le_of_ble_eq_true rfl, Nat.le_of_ble_eq_true rfl⟩) (hcs := ⟨Nat.le_of_ble_eq_true rfl, Nat.le_of_ble_eq_true rfl⟩) (fun v_ w_ hp_ => ?_)
  obtain ⟨rfl, rfl⟩ := hp_
  show Wx _ _ _ _ _ _ _ _ _ _ _ _ _ _ _ _ 7 [(0, .ref h), (1, .int (iI (j : Int))), (2, .int (iI (u : Int))), (3, .int (iI (v : Int))), (4, .int (iI t))] [.long (lI (cst sg fa fc 0 1 j - cst sg fa fc 0 1 u))] [(h, ob 7 [.ref hb, .ref ha, .ref hc, .int (iI (n : Int)), .int (iI sg)]), (ha, ia E 2002 fa), (hc, ia E 2002 fc)]
  refine x_aload_n (pc' := 8) C 0 dX8_greatestLoss_7 rfl rfl ?_
  refine x_iload_n (pc' := 9) C 3 dX8_greatestLoss_8 rfl rfl ?_
  refine x_iload_n (pc' := 10) C 1 dX8_greatestLoss_9 rfl rfl ?_
  refine x_iload (pc' := 12) C 4 dX8_greatestLoss_10 rfl rfl ?_
  refine x_callV (pc' := 15) (As := [.int (iI (v : Int)), .int (iI (j : Int)), .int (iI t)]) (rest := [.long (lI (cst sg fa fc 0 1 j - cst sg fa fc 0 1 u))]) (q0 := 0) C rfl rfl cv_X8_54_X8 dX8_greatestLoss_12 rfl (c_X8_lossAgainst l E h hb ha hc n v j sg t fa fc (show n ≤ 2002 from by omega) (show 0 < n from by omega) (show ∀ j_ : Nat, j_ < n → -1600 ≤ fa j_ ∧ fa j_ ≤ 1600 from hA) (show ∀ j_ : Nat, j_ < n → -1600 ≤ fc j_ ∧ fc j_ ≤ 1600 from hB) (show sg = 1 ∨ sg = -1 from hsg) (show v < n from by omega) (show j < n from by omega) (show 0 ≤ t ∧ t ≤ 100 from by omega)) mm_X8_lossAgainst (hstk := rfl) (hlen := rfl) (hcat := Nat.le_of_ble_eq_true rfl) (isC := [0, 1, 2]) (isR := []) (wr := []) (hC := rfl) (hR := rfl) (hnC := rfl) (hn := rfl) (hdis := by decide) (hR1 := ⟨Nat.le_of_ble_eq_true rfl, Nat.le_of_ble_eq_true rfl⟩) (hcs := ⟨Nat.le_of_ble_eq_true rfl, Nat.le_of_ble_eq_true rfl⟩) (fun v_ w_ hp_ => ?_)
  obtain ⟨rfl, rfl⟩ := hp_
  show Wx _ _ _ _ _ _ _ _ _ _ _ _ _ _ _ _ 15 [(0, .ref h), (1, .int (iI (j : Int))), (2, .int (iI (u : Int))), (3, .int (iI (v : Int))), (4, .int (iI t))] [.long (lI (cst sg fa fc t 1 j - cst sg fa fc t 1 v)), .long (lI (cst sg fa fc 0 1 j - cst sg fa fc 0 1 u))] [(h, ob 7 [.ref hb, .ref ha, .ref hc, .int (iI (n : Int)), .int (iI sg)]), (ha, ia E 2002 fa), (hc, ia E 2002 fc)]
  have b1 := cst_bd hsg (hA j (by omega)) (hB j (by omega)) (show 0 ≤ 0 ∧ 0 ≤ (1000000 : Int) by omega) (show 0 ≤ (1 : Int) ∧ (1 : Int) ≤ 1000000 by omega)
  have b2 := cst_bd hsg (hA u (by omega)) (hB u (by omega)) (show 0 ≤ 0 ∧ 0 ≤ (1000000 : Int) by omega) (show 0 ≤ (1 : Int) ∧ (1 : Int) ≤ 1000000 by omega)
  have b3 := cst_bd hsg (hA j (by omega)) (hB j (by omega)) (show 0 ≤ t ∧ t ≤ (1000000 : Int) by omega) (show 0 ≤ (1 : Int) ∧ (1 : Int) ≤ 1000000 by omega)
  have b4 := cst_bd hsg (hA v (by omega)) (hB v (by omega)) (show 0 ≤ t ∧ t ≤ (1000000 : Int) by omega) (show 0 ≤ (1 : Int) ∧ (1 : Int) ≤ 1000000 by omega)
  refine x_mmaxl (pc' := 18) C dX8_greatestLoss_15 rfl cs_X8_58 (mm_J9_max_f86c9) (Nat.le_of_ble_eq_true rfl) (Nat.le_of_ble_eq_true rfl) ⟨Nat.le_of_ble_eq_true rfl, Nat.le_of_ble_eq_true rfl⟩ (by omega) (by omega) ?_
  exact x_lret C hr dX8_greatestLoss_18 ⟨rfl, rfl⟩

set_option maxHeartbeats 4000000 in
set_option maxRecDepth 100000 in
theorem c_X8_leastRued (l : Launch) (E : EV) (h : Nat) (hb : Nat) (ha : Nat) (hc : Nat) (n : Nat) (u : Nat) (v : Nat) (sg : Int) (t : Int) (fa : Nat → Int) (fc : Nat → Int) (hn : n ≤ 2002) (h0 : 0 < n) (hA : ∀ j_ : Nat, j_ < n → -1600 ≤ fa j_ ∧ fa j_ ≤ 1600) (hB : ∀ j_ : Nat, j_ < n → -1600 ≤ fc j_ ∧ fc j_ ≤ 1600) (hsg : sg = 1 ∨ sg = -1) (hu : u < n) (hv : v < n) (ht : 0 ≤ t ∧ t ≤ 100) : MC l E yX8_leastRued cX8_leastRued 10 (some .int) ({ frames := 4, cells := 0, slots := 0, locals := 97 }) [.ref h, .int (iI (u : Int)), .int (iI (v : Int)), .int (iI t)] [(h, ob 7 [.ref hb, .ref ha, .ref hc, .int (iI (n : Int)), .int (iI sg)]), (ha, ia E 2002 fa), (hc, ia E 2002 fc)] (fun v_ w_ => v_ = some (.int (iI ((best (fun jj_ => (max (cst sg fa fc 0 1 jj_ - cst sg fa fc 0 1 u) (cst sg fa fc t 1 jj_ - cst sg fa fc t 1 v))) n : Nat) : Int))) ∧ w_ = [(h, ob 7 [.ref hb, .ref ha, .ref hc, .int (iI (n : Int)), .int (iI sg)]), (ha, ia E 2002 fa), (hc, ia E 2002 fc)]) := by
  refine MC.of (by decide +kernel) (Nat.le_of_ble_eq_true rfl) ?_
  intro p_ e_ s_ m_ args_ below_ meth_ c_ A_ C hr hnm
  have C : Cx p_ s_ m_ args_ meth_ c_ E A_ 10 cX8_leastRued RX8 := C
  show Wx _ _ _ _ _ _ _ _ _ _ _ _ _ _ _ _ 0 [(0, .ref h), (1, .int (iI (u : Int))), (2, .int (iI (v : Int))), (3, .int (iI t))] [] [(h, ob 7 [.ref hb, .ref ha, .ref hc, .int (iI (n : Int)), .int (iI sg)]), (ha, ia E 2002 fa), (hc, ia E 2002 fc)]
  refine x_iconst (pc' := 1) C dX8_leastRued_0 rfl ?_
  refine x_istore (pc' := 3) (lv' := [(4, .int (iI 0)), (0, .ref h), (1, .int (iI (u : Int))), (2, .int (iI (v : Int))), (3, .int (iI t))]) C dX8_leastRued_1 rfl (by decide) rfl ?_
  refine x_aload_n (pc' := 4) C 1 dX8_leastRued_3 rfl rfl ?_
  refine x_iconst (pc' := 5) C dX8_leastRued_4 rfl ?_
  refine x_iload_n (pc' := 6) C 2 dX8_leastRued_5 rfl rfl ?_
  refine x_iload_n (pc' := 7) C 3 dX8_leastRued_6 rfl rfl ?_
  refine x_iload_n (pc' := 8) C 4 dX8_leastRued_7 rfl rfl ?_
  refine x_callV (pc' := 11) (As := [.int (iI 0), .int (iI (u : Int)), .int (iI (v : Int)), .int (iI t)]) (rest := []) (q0 := 0) C rfl rfl cv_X8_50_X8 dX8_leastRued_8 rfl (c_X8_greatestLoss l E h hb ha hc n u v 0 sg t fa fc (show n ≤ 2002 from by omega) (show 0 < n from by omega) (show ∀ j_ : Nat, j_ < n → -1600 ≤ fa j_ ∧ fa j_ ≤ 1600 from hA) (show ∀ j_ : Nat, j_ < n → -1600 ≤ fc j_ ∧ fc j_ ≤ 1600 from hB) (show sg = 1 ∨ sg = -1 from hsg) (show u < n from by omega) (show v < n from by omega) (show 0 < n from by omega) (show 0 ≤ t ∧ t ≤ 100 from by omega)) mm_X8_greatestLoss (hstk := rfl) (hlen := rfl) (hcat := Nat.le_of_ble_eq_true rfl) (isC := [0, 1, 2]) (isR := []) (wr := []) (hC := rfl) (hR := rfl) (hnC := rfl) (hn := rfl) (hdis := by decide) (hR1 := ⟨Nat.le_of_ble_eq_true rfl, Nat.le_of_ble_eq_true rfl⟩) (hcs := ⟨Nat.le_of_ble_eq_true rfl, Nat.le_of_ble_eq_true rfl⟩) (fun v_ w_ hp_ => ?_)
  obtain ⟨rfl, rfl⟩ := hp_
  show Wx _ _ _ _ _ _ _ _ _ _ _ _ _ _ _ _ 11 [(4, .int (iI 0)), (0, .ref h), (1, .int (iI (u : Int))), (2, .int (iI (v : Int))), (3, .int (iI t))] [.long (lI (max (cst sg fa fc 0 1 0 - cst sg fa fc 0 1 u) (cst sg fa fc t 1 0 - cst sg fa fc t 1 v)))] [(h, ob 7 [.ref hb, .ref ha, .ref hc, .int (iI (n : Int)), .int (iI sg)]), (ha, ia E 2002 fa), (hc, ia E 2002 fc)]
  refine x_lstore (pc' := 13) (lv' := [(5, .long (lI (max (cst sg fa fc 0 1 0 - cst sg fa fc 0 1 u) (cst sg fa fc t 1 0 - cst sg fa fc t 1 v)))), (4, .int (iI 0)), (0, .ref h), (1, .int (iI (u : Int))), (2, .int (iI (v : Int))), (3, .int (iI t))]) C dX8_leastRued_11 rfl (by decide) rfl ?_
  refine x_iconst (pc' := 14) C dX8_leastRued_13 rfl ?_
  refine x_istore (pc' := 16) (lv' := [(7, .int (iI 1)), (5, .long (lI (max (cst sg fa fc 0 1 0 - cst sg fa fc 0 1 u) (cst sg fa fc t 1 0 - cst sg fa fc t 1 v)))), (4, .int (iI 0)), (0, .ref h), (1, .int (iI (u : Int))), (2, .int (iI (v : Int))), (3, .int (iI t))]) C dX8_leastRued_14 rfl (by decide) rfl ?_
  refine x_lv [3, 4, 5, 6, 2, 1, 0] rfl ?_
  refine x_loop (α := (Nat) × (Nat) × (Int)) (fun a_ => (1 ≤ a_.1 ∧ a_.1 ≤ n) ∧ (a_.2.1 < n) ∧ (a_.2.1 = best (fun jj_ => (max (cst sg fa fc 0 1 jj_ - cst sg fa fc 0 1 u) (cst sg fa fc t 1 jj_ - cst sg fa fc t 1 v))) a_.1) ∧ (a_.2.2 = (max (cst sg fa fc 0 1 a_.2.1 - cst sg fa fc 0 1 u) (cst sg fa fc t 1 a_.2.1 - cst sg fa fc t 1 v)))) (fun a_ => n - a_.1) (fun a_ => [(0, .ref h), (1, .int (iI (u : Int))), (2, .int (iI (v : Int))), (3, .int (iI t)), (4, .int (iI (a_.2.1 : Int))), (5, .long (lI a_.2.2)), (7, .int (iI (a_.1 : Int)))]) (fun a_ => [(h, ob 7 [.ref hb, .ref ha, .ref hc, .int (iI (n : Int)), .int (iI sg)]), (ha, ia E 2002 fa), (hc, ia E 2002 fc)]) ?_ (1, 0, (max (cst sg fa fc 0 1 0 - cst sg fa fc 0 1 u) (cst sg fa fc t 1 0 - cst sg fa fc t 1 v))) ?_
  · intro a_ hI_ ih16
    obtain ⟨i, j, z⟩ := a_
    obtain ⟨hi, hj, hb_, hz⟩ := hI_
    replace hi : 1 ≤ i ∧ i ≤ n := hi
    replace hj : j < n := hj
    replace hb_ : j = best (fun jj_ => (max (cst sg fa fc 0 1 jj_ - cst sg fa fc 0 1 u) (cst sg fa fc t 1 jj_ - cst sg fa fc t 1 v))) i := hb_
    replace hz : z = (max (cst sg fa fc 0 1 j - cst sg fa fc 0 1 u) (cst sg fa fc t 1 j - cst sg fa fc t 1 v)) := hz
    show Wx _ _ _ _ _ _ _ _ _ _ _ _ _ _ _ _ 16 [(0, .ref h), (1, .int (iI (u : Int))), (2, .int (iI (v : Int))), (3, .int (iI t)), (4, .int (iI (j : Int))), (5, .long (lI z)), (7, .int (iI (i : Int)))] [] [(h, ob 7 [.ref hb, .ref ha, .ref hc, .int (iI (n : Int)), .int (iI sg)]), (ha, ia E 2002 fa), (hc, ia E 2002 fc)]
    refine x_iload (pc' := 18) C 6 dX8_leastRued_16 rfl rfl ?_
    refine x_aload_n (pc' := 19) C 0 dX8_leastRued_18 rfl rfl ?_
    refine x_get (pc' := 22) C dX8_leastRued_19 rfl ff_X8_21_7 0 rfl rfl ?_
    refine x_icmp_ge (pc' := 25) (tgt := 61) C dX8_leastRued_22 rfl (by decide) (by omega) (by omega) (fun c22 => ?_) (fun c22 => ?_)
    ·
      refine x_iload (pc' := 63) C 4 dX8_leastRued_61 rfl rfl ?_
      refine x_top (b := .int (iI ((best (fun jj_ => (max (cst sg fa fc 0 1 jj_ - cst sg fa fc 0 1 u) (cst sg fa fc t 1 jj_ - cst sg fa fc t 1 v))) n : Nat) : Int))) (by rw [hb_, show i = n by omega]) ?_
      exact x_iret C hr dX8_leastRued_63 ⟨rfl, rfl⟩
    ·
      refine x_aload_n (pc' := 26) C 0 dX8_leastRued_25 rfl rfl ?_
      refine x_iload (pc' := 28) C 6 dX8_leastRued_26 rfl rfl ?_
      refine x_iload_n (pc' := 29) C 1 dX8_leastRued_28 rfl rfl ?_
      refine x_iload_n (pc' := 30) C 2 dX8_leastRued_29 rfl rfl ?_
      refine x_iload_n (pc' := 31) C 3 dX8_leastRued_30 rfl rfl ?_
      refine x_callV (pc' := 34) (As := [.int (iI (i : Int)), .int (iI (u : Int)), .int (iI (v : Int)), .int (iI t)]) (rest := []) (q0 := 0) C rfl rfl cv_X8_50_X8 dX8_leastRued_31 rfl (c_X8_greatestLoss l E h hb ha hc n u v i sg t fa fc (show n ≤ 2002 from by omega) (show 0 < n from by omega) (show ∀ j_ : Nat, j_ < n → -1600 ≤ fa j_ ∧ fa j_ ≤ 1600 from hA) (show ∀ j_ : Nat, j_ < n → -1600 ≤ fc j_ ∧ fc j_ ≤ 1600 from hB) (show sg = 1 ∨ sg = -1 from hsg) (show u < n from by omega) (show v < n from by omega) (show i < n from by omega) (show 0 ≤ t ∧ t ≤ 100 from by omega)) mm_X8_greatestLoss (hstk := rfl) (hlen := rfl) (hcat := Nat.le_of_ble_eq_true rfl) (isC := [0, 1, 2]) (isR := []) (wr := []) (hC := rfl) (hR := rfl) (hnC := rfl) (hn := rfl) (hdis := by decide) (hR1 := ⟨Nat.le_of_ble_eq_true rfl, Nat.le_of_ble_eq_true rfl⟩) (hcs := ⟨Nat.le_of_ble_eq_true rfl, Nat.le_of_ble_eq_true rfl⟩) (fun v_ w_ hp_ => ?_)
      obtain ⟨rfl, rfl⟩ := hp_
      show Wx _ _ _ _ _ _ _ _ _ _ _ _ _ _ _ _ 34 [(0, .ref h), (1, .int (iI (u : Int))), (2, .int (iI (v : Int))), (3, .int (iI t)), (4, .int (iI (j : Int))), (5, .long (lI z)), (7, .int (iI (i : Int)))] [.long (lI (max (cst sg fa fc 0 1 i - cst sg fa fc 0 1 u) (cst sg fa fc t 1 i - cst sg fa fc t 1 v)))] [(h, ob 7 [.ref hb, .ref ha, .ref hc, .int (iI (n : Int)), .int (iI sg)]), (ha, ia E 2002 fa), (hc, ia E 2002 fc)]
      have b1 := cst_bd hsg (hA i (by omega)) (hB i (by omega)) (show 0 ≤ 0 ∧ 0 ≤ (1000000 : Int) by omega) (show 0 ≤ (1 : Int) ∧ (1 : Int) ≤ 1000000 by omega)
      have b2 := cst_bd hsg (hA u (by omega)) (hB u (by omega)) (show 0 ≤ 0 ∧ 0 ≤ (1000000 : Int) by omega) (show 0 ≤ (1 : Int) ∧ (1 : Int) ≤ 1000000 by omega)
      have b3 := cst_bd hsg (hA i (by omega)) (hB i (by omega)) (show 0 ≤ t ∧ t ≤ (1000000 : Int) by omega) (show 0 ≤ (1 : Int) ∧ (1 : Int) ≤ 1000000 by omega)
      have b4 := cst_bd hsg (hA v (by omega)) (hB v (by omega)) (show 0 ≤ t ∧ t ≤ (1000000 : Int) by omega) (show 0 ≤ (1 : Int) ∧ (1 : Int) ≤ 1000000 by omega)
      have b5 := cst_bd hsg (hA j (by omega)) (hB j (by omega)) (show 0 ≤ 0 ∧ 0 ≤ (1000000 : Int) by omega) (show 0 ≤ (1 : Int) ∧ (1 : Int) ≤ 1000000 by omega)
      have b6 := cst_bd hsg (hA j (by omega)) (hB j (by omega)) (show 0 ≤ t ∧ t ≤ (1000000 : Int) by omega) (show 0 ≤ (1 : Int) ∧ (1 : Int) ≤ 1000000 by omega)
      refine x_lstore (pc' := 36) (lv' := [(8, .long (lI (max (cst sg fa fc 0 1 i - cst sg fa fc 0 1 u) (cst sg fa fc t 1 i - cst sg fa fc t 1 v)))), (0, .ref h), (1, .int (iI (u : Int))), (2, .int (iI (v : Int))), (3, .int (iI t)), (4, .int (iI (j : Int))), (5, .long (lI z)), (7, .int (iI (i : Int)))]) C dX8_leastRued_34 rfl (by decide) rfl ?_
      refine x_lload (pc' := 38) C 0 dX8_leastRued_36 rfl rfl ?_
      refine x_lload (pc' := 40) C 6 dX8_leastRued_38 rfl rfl ?_
      refine x_lcmp_lt (pc' := 44) (tgt := 47) C dX8_leastRued_40 (pc1 := 41) rfl dX8_leastRued_41 rfl (by decide) (by omega) (by omega) (fun c40 => ?_) (fun c40 => ?_)
      ·
        refine x_iload (pc' := 49) C 7 dX8_leastRued_47 rfl rfl ?_
        refine x_istore (pc' := 51) (lv' := [(4, .int (iI (i : Int))), (8, .long (lI (max (cst sg fa fc 0 1 i - cst sg fa fc 0 1 u) (cst sg fa fc t 1 i - cst sg fa fc t 1 v)))), (0, .ref h), (1, .int (iI (u : Int))), (2, .int (iI (v : Int))), (3, .int (iI t)), (5, .long (lI z)), (7, .int (iI (i : Int)))]) C dX8_leastRued_49 rfl (by decide) rfl ?_
        refine x_lload (pc' := 53) C 1 dX8_leastRued_51 rfl rfl ?_
        refine x_lstore (pc' := 55) (lv' := [(5, .long (lI (max (cst sg fa fc 0 1 i - cst sg fa fc 0 1 u) (cst sg fa fc t 1 i - cst sg fa fc t 1 v)))), (4, .int (iI (i : Int))), (8, .long (lI (max (cst sg fa fc 0 1 i - cst sg fa fc 0 1 u) (cst sg fa fc t 1 i - cst sg fa fc t 1 v)))), (0, .ref h), (1, .int (iI (u : Int))), (2, .int (iI (v : Int))), (3, .int (iI t)), (7, .int (iI (i : Int)))]) C dX8_leastRued_53 rfl (by decide) rfl ?_
        refine x_iinc (pc' := 58) (lv' := [(7, .int (iI ((i : Int) + 1))), (5, .long (lI (max (cst sg fa fc 0 1 i - cst sg fa fc 0 1 u) (cst sg fa fc t 1 i - cst sg fa fc t 1 v)))), (4, .int (iI (i : Int))), (8, .long (lI (max (cst sg fa fc 0 1 i - cst sg fa fc 0 1 u) (cst sg fa fc t 1 i - cst sg fa fc t 1 v)))), (0, .ref h), (1, .int (iI (u : Int))), (2, .int (iI (v : Int))), (3, .int (iI t))]) C 7 dX8_leastRued_55 rfl (by decide) rfl rfl ?_
        refine x_lvI (lv' := [(7, .int (iI ((i + 1 : Nat) : Int))), (5, .long (lI (max (cst sg fa fc 0 1 i - cst sg fa fc 0 1 u) (cst sg fa fc t 1 i - cst sg fa fc t 1 v)))), (4, .int (iI (i : Int))), (8, .long (lI (max (cst sg fa fc 0 1 i - cst sg fa fc 0 1 u) (cst sg fa fc t 1 i - cst sg fa fc t 1 v)))), (0, .ref h), (1, .int (iI (u : Int))), (2, .int (iI (v : Int))), (3, .int (iI t))]) 0 rfl (by omega) rfl ?_
        refine x_goto (tgt := 16) C dX8_leastRued_58 (by decide) ?_
        refine x_lv [4, 5, 6, 7, 2, 1, 0] rfl ?_
        exact ih16 ((i + 1), i, (max (cst sg fa fc 0 1 i - cst sg fa fc 0 1 u) (cst sg fa fc t 1 i - cst sg fa fc t 1 v))) ⟨(show 1 ≤ (i + 1) ∧ (i + 1) ≤ n from by omega), (show i < n from by omega), (show i = best (fun jj_ => (max (cst sg fa fc 0 1 jj_ - cst sg fa fc 0 1 u) (cst sg fa fc t 1 jj_ - cst sg fa fc t 1 v))) (i + 1) from by first | exact best_step hb_ hz (by assumption) | exact best_stay hb_ hz (by assumption)), (show (max (cst sg fa fc 0 1 i - cst sg fa fc 0 1 u) (cst sg fa fc t 1 i - cst sg fa fc t 1 v)) = (max (cst sg fa fc 0 1 i - cst sg fa fc 0 1 u) (cst sg fa fc t 1 i - cst sg fa fc t 1 v)) from by first | rfl | exact hz)⟩ (show n - (i + 1) < n - i from by omega)
      ·
        refine x_goto (tgt := 55) C dX8_leastRued_44 (by decide) ?_
        refine x_iinc (pc' := 58) (lv' := [(7, .int (iI ((i : Int) + 1))), (8, .long (lI (max (cst sg fa fc 0 1 i - cst sg fa fc 0 1 u) (cst sg fa fc t 1 i - cst sg fa fc t 1 v)))), (0, .ref h), (1, .int (iI (u : Int))), (2, .int (iI (v : Int))), (3, .int (iI t)), (4, .int (iI (j : Int))), (5, .long (lI z))]) C 7 dX8_leastRued_55 rfl (by decide) rfl rfl ?_
        refine x_lvI (lv' := [(7, .int (iI ((i + 1 : Nat) : Int))), (8, .long (lI (max (cst sg fa fc 0 1 i - cst sg fa fc 0 1 u) (cst sg fa fc t 1 i - cst sg fa fc t 1 v)))), (0, .ref h), (1, .int (iI (u : Int))), (2, .int (iI (v : Int))), (3, .int (iI t)), (4, .int (iI (j : Int))), (5, .long (lI z))]) 0 rfl (by omega) rfl ?_
        refine x_goto (tgt := 16) C dX8_leastRued_58 (by decide) ?_
        refine x_lv [2, 3, 4, 5, 6, 7, 0] rfl ?_
        exact ih16 ((i + 1), j, z) ⟨(show 1 ≤ (i + 1) ∧ (i + 1) ≤ n from by omega), (show j < n from by omega), (show j = best (fun jj_ => (max (cst sg fa fc 0 1 jj_ - cst sg fa fc 0 1 u) (cst sg fa fc t 1 jj_ - cst sg fa fc t 1 v))) (i + 1) from by first | exact best_step hb_ hz (by assumption) | exact best_stay hb_ hz (by assumption)), (show z = (max (cst sg fa fc 0 1 j - cst sg fa fc 0 1 u) (cst sg fa fc t 1 j - cst sg fa fc t 1 v)) from by first | rfl | exact hz)⟩ (show n - (i + 1) < n - i from by omega)
  · exact ⟨(show 1 ≤ 1 ∧ 1 ≤ n from by omega), (show 0 < n from by omega), (show 0 = best (fun jj_ => (max (cst sg fa fc 0 1 jj_ - cst sg fa fc 0 1 u) (cst sg fa fc t 1 jj_ - cst sg fa fc t 1 v))) 1 from (best_1 _).symm), (show (max (cst sg fa fc 0 1 0 - cst sg fa fc 0 1 u) (cst sg fa fc t 1 0 - cst sg fa fc t 1 v)) = (max (cst sg fa fc 0 1 0 - cst sg fa fc 0 1 u) (cst sg fa fc t 1 0 - cst sg fa fc t 1 v)) from rfl)⟩

set_option maxHeartbeats 4000000 in
set_option maxRecDepth 100000 in
theorem c_X8_allRise (l : Launch) (E : EV) (h : Nat) (hb : Nat) (ha : Nat) (hc : Nat) (n : Nat) (sg : Int) (fc : Nat → Int) (hn : n ≤ 2002) (hB : ∀ j_ : Nat, j_ < n → -1600 ≤ fc j_ ∧ fc j_ ≤ 1600) : MC l E yX8_allRise cX8_allRise 2 (some .boolean) ({ frames := 0, cells := 0, slots := 0, locals := 0 }) [.ref h] [(h, ob 7 [.ref hb, .ref ha, .ref hc, .int (iI (n : Int)), .int (iI sg)]), (hc, ia E 2002 fc)] (fun v_ w_ => v_ = some (.int (iI (bI (∀ j : Nat, j < n → 0 < fc j)))) ∧ w_ = [(h, ob 7 [.ref hb, .ref ha, .ref hc, .int (iI (n : Int)), .int (iI sg)]), (hc, ia E 2002 fc)]) := by
  refine MC.of (by decide +kernel) (Nat.le_of_ble_eq_true rfl) ?_
  intro p_ e_ s_ m_ args_ below_ meth_ c_ A_ C hr hnm
  have C : Cx p_ s_ m_ args_ meth_ c_ E A_ 2 cX8_allRise RX8 := C
  show Wx _ _ _ _ _ _ _ _ _ _ _ _ _ _ _ _ 0 [(0, .ref h)] [] [(h, ob 7 [.ref hb, .ref ha, .ref hc, .int (iI (n : Int)), .int (iI sg)]), (hc, ia E 2002 fc)]
  refine x_iconst (pc' := 1) C dX8_allRise_0 rfl ?_
  refine x_istore_n (pc' := 2) (lv' := [(1, .int (iI 0)), (0, .ref h)]) C dX8_allRise_1 rfl (by decide) rfl ?_
  refine x_lv [1, 0] rfl ?_
  refine x_loop (α := Nat) (fun a_ => (a_ ≤ n) ∧ (∀ j : Nat, j < a_ → 0 < fc j)) (fun a_ => n - a_) (fun a_ => [(0, .ref h), (1, .int (iI (a_ : Int)))]) (fun a_ => [(h, ob 7 [.ref hb, .ref ha, .ref hc, .int (iI (n : Int)), .int (iI sg)]), (hc, ia E 2002 fc)]) ?_ 0 ?_
  · intro a_ hI_ ih2
    obtain ⟨i, rfl⟩ : ∃ z_, z_ = a_ := ⟨_, rfl⟩
    obtain ⟨hi, hz⟩ := hI_
    replace hi : i ≤ n := hi
    replace hz : ∀ j : Nat, j < i → 0 < fc j := hz
    show Wx _ _ _ _ _ _ _ _ _ _ _ _ _ _ _ _ 2 [(0, .ref h), (1, .int (iI (i : Int)))] [] [(h, ob 7 [.ref hb, .ref ha, .ref hc, .int (iI (n : Int)), .int (iI sg)]), (hc, ia E 2002 fc)]
    refine x_iload_n (pc' := 3) C 1 dX8_allRise_2 rfl rfl ?_
    refine x_aload_n (pc' := 4) C 0 dX8_allRise_3 rfl rfl ?_
    refine x_get (pc' := 7) C dX8_allRise_4 rfl ff_X8_21_7 0 rfl rfl ?_
    refine x_icmp_ge (pc' := 10) (tgt := 27) C dX8_allRise_7 rfl (by decide) (by omega) (by omega) (fun c7 => ?_) (fun c7 => ?_)
    ·
      refine x_iconst (pc' := 28) C dX8_allRise_27 rfl ?_
      refine x_top (b := .int (iI (bI (∀ j : Nat, j < n → 0 < fc j)))) (by rw [bI_t (fun j hj => hz j (by omega))]) ?_
      exact x_zret C (nar_bI) hr dX8_allRise_28 ⟨rfl, rfl⟩
    ·
      refine x_aload_n (pc' := 11) C 0 dX8_allRise_10 rfl rfl ?_
      refine x_get (pc' := 14) C dX8_allRise_11 rfl ff_X8_18_7 0 rfl rfl ?_
      refine x_iload_n (pc' := 15) C 1 dX8_allRise_14 rfl rfl ?_
      have hBi := hB i (by omega)
      refine x_iald (pc' := 16) C i dX8_allRise_15 rfl 1 rfl (by omega) (by omega) (by omega) ?_
      refine x_if_gt (pc' := 19) (tgt := 21) C dX8_allRise_16 rfl (by decide) (by omega) (fun c16 => ?_) (fun c16 => ?_)
      ·
        refine x_iinc (pc' := 24) (lv' := [(1, .int (iI ((i : Int) + 1))), (0, .ref h)]) C 1 dX8_allRise_21 rfl (by decide) rfl rfl ?_
        refine x_lvI (lv' := [(1, .int (iI ((i + 1 : Nat) : Int))), (0, .ref h)]) 0 rfl (by omega) rfl ?_
        refine x_goto (tgt := 2) C dX8_allRise_24 (by decide) ?_
        refine x_lv [1, 0] rfl ?_
        exact ih2 (i + 1) ⟨(show (i + 1) ≤ n from by omega), (show ∀ j : Nat, j < (i + 1) → 0 < fc j from all_step hz c16)⟩ (show n - (i + 1) < n - i from by omega)
      ·
        refine x_iconst (pc' := 20) C dX8_allRise_19 rfl ?_
        refine x_top (b := .int (iI (bI (∀ j : Nat, j < n → 0 < fc j)))) (by rw [bI_f (fun hh => by have := hh i (by omega); omega)]) ?_
        exact x_zret C (nar_bI) hr dX8_allRise_20 ⟨rfl, rfl⟩
  · exact ⟨(show 0 ≤ n from by omega), (show ∀ j : Nat, j < 0 → 0 < fc j from fun j h => absurd h (Nat.not_lt_zero _))⟩
