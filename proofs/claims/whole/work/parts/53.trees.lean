set_option maxHeartbeats 4000000 in
set_option maxRecDepth 100000 in
theorem c_J6_bitCount_0f7a4 (l : Launch) (E : EV) (S : Nat) (hS : S < 1000000) : MC l E yJ6_bitCount_0f7a4 cJ6_bitCount_0f7a4 1 (some .int) ({ frames := 0, cells := 0, slots := 0, locals := 0 }) [.int (iI (S : Int))] [] (fun v_ w_ => v_ = some (.int (iI ((popc S : Nat) : Int))) ∧ w_ = []) := by
  refine MC.of (by decide +kernel) (Nat.le_of_ble_eq_true rfl) ?_
  intro p_ e_ s_ m_ args_ below_ meth_ c_ A_ C hr hnm
  have C : Cx p_ s_ m_ args_ meth_ c_ E A_ 1 cJ6_bitCount_0f7a4 RJ6 := C
  show Wx _ _ _ _ _ _ _ _ _ _ _ _ _ _ _ _ 0 [(0, .int (iI (S : Int)))] [] []
  refine x_iload_n (pc' := 1) C 0 dJ6_bitCount_0f7a4_0 rfl rfl ?_
  refine x_iload_n (pc' := 2) C 0 dJ6_bitCount_0f7a4_1 rfl rfl ?_
  refine x_iconst (pc' := 3) C dJ6_bitCount_0f7a4_2 rfl ?_
  refine x_iushr (pc' := 4) (z := (iI ((S / 2 ^ 1 : Nat) : Int))) C dJ6_bitCount_0f7a4_3 rfl (bt_ushr (by omega) (by decide)) ?_
  refine x_ldcw (pc' := 7) (z := 1431655765) C dJ6_bitCount_0f7a4_4 rfl kc_J6_265 rfl ?_
  refine x_iand (pc' := 8) (z := (iI ((S / 2 ^ 1 &&& 1431655765 : Nat) : Int))) C dJ6_bitCount_0f7a4_7 rfl (bt_and _ _) ?_
  refine x_isub (pc' := 9) C dJ6_bitCount_0f7a4_8 rfl ?_
  refine x_top (b := .int (iI ((pc1 S : Nat) : Int))) (by have := pc_b1 S; unfold pc1; congr 2; omega) ?_
  refine x_istore_n (pc' := 10) (lv' := [(0, .int (iI ((pc1 S : Nat) : Int)))]) C dJ6_bitCount_0f7a4_9 rfl (by decide) rfl ?_
  refine x_iload_n (pc' := 11) C 0 dJ6_bitCount_0f7a4_10 rfl rfl ?_
  refine x_ldcw (pc' := 14) (z := 858993459) C dJ6_bitCount_0f7a4_11 rfl kc_J6_266 rfl ?_
  refine x_iand (pc' := 15) (z := (iI ((pc1 S &&& 858993459 : Nat) : Int))) C dJ6_bitCount_0f7a4_14 rfl (bt_and _ _) ?_
  refine x_iload_n (pc' := 16) C 0 dJ6_bitCount_0f7a4_15 rfl rfl ?_
  refine x_iconst (pc' := 17) C dJ6_bitCount_0f7a4_16 rfl ?_
  refine x_iushr (pc' := 18) (z := (iI ((pc1 S / 2 ^ 2 : Nat) : Int))) C dJ6_bitCount_0f7a4_17 rfl (bt_ushr (by have := pc_b2 S; omega) (by decide)) ?_
  refine x_ldcw (pc' := 21) (z := 858993459) C dJ6_bitCount_0f7a4_18 rfl kc_J6_266 rfl ?_
  refine x_iand (pc' := 22) (z := (iI ((pc1 S / 2 ^ 2 &&& 858993459 : Nat) : Int))) C dJ6_bitCount_0f7a4_21 rfl (bt_and _ _) ?_
  refine x_iadd (pc' := 23) C dJ6_bitCount_0f7a4_22 rfl ?_
  refine x_top (b := .int (iI ((pc2 S : Nat) : Int))) (rfl) ?_
  refine x_istore_n (pc' := 24) (lv' := [(0, .int (iI ((pc2 S : Nat) : Int)))]) C dJ6_bitCount_0f7a4_23 rfl (by decide) rfl ?_
  refine x_iload_n (pc' := 25) C 0 dJ6_bitCount_0f7a4_24 rfl rfl ?_
  refine x_iload_n (pc' := 26) C 0 dJ6_bitCount_0f7a4_25 rfl rfl ?_
  refine x_iconst (pc' := 27) C dJ6_bitCount_0f7a4_26 rfl ?_
  refine x_iushr (pc' := 28) (z := (iI ((pc2 S / 2 ^ 4 : Nat) : Int))) C dJ6_bitCount_0f7a4_27 rfl (bt_ushr (by have := pc_b3 S; omega) (by decide)) ?_
  refine x_iadd (pc' := 29) C dJ6_bitCount_0f7a4_28 rfl ?_
  refine x_top (b := .int (iI ((pc2 S + pc2 S / 2 ^ 4 : Nat) : Int))) (rfl) ?_
  refine x_ldcw (pc' := 32) (z := 252645135) C dJ6_bitCount_0f7a4_29 rfl kc_J6_267 rfl ?_
  refine x_iand (pc' := 33) (z := (iI ((pc3 S : Nat) : Int))) C dJ6_bitCount_0f7a4_32 rfl (bt_and _ _) ?_
  refine x_istore_n (pc' := 34) (lv' := [(0, .int (iI ((pc3 S : Nat) : Int)))]) C dJ6_bitCount_0f7a4_33 rfl (by decide) rfl ?_
  refine x_iload_n (pc' := 35) C 0 dJ6_bitCount_0f7a4_34 rfl rfl ?_
  refine x_iload_n (pc' := 36) C 0 dJ6_bitCount_0f7a4_35 rfl rfl ?_
  refine x_bipush (pc' := 38) C dJ6_bitCount_0f7a4_36 rfl rfl ?_
  refine x_iushr (pc' := 39) (z := (iI ((pc3 S / 2 ^ 8 : Nat) : Int))) C dJ6_bitCount_0f7a4_38 rfl (bt_ushr (by have := pc_b4 S; omega) (by decide)) ?_
  refine x_iadd (pc' := 40) C dJ6_bitCount_0f7a4_39 rfl ?_
  refine x_top (b := .int (iI ((pc4 S : Nat) : Int))) (rfl) ?_
  refine x_istore_n (pc' := 41) (lv' := [(0, .int (iI ((pc4 S : Nat) : Int)))]) C dJ6_bitCount_0f7a4_40 rfl (by decide) rfl ?_
  refine x_iload_n (pc' := 42) C 0 dJ6_bitCount_0f7a4_41 rfl rfl ?_
  refine x_iload_n (pc' := 43) C 0 dJ6_bitCount_0f7a4_42 rfl rfl ?_
  refine x_bipush (pc' := 45) C dJ6_bitCount_0f7a4_43 rfl rfl ?_
  refine x_iushr (pc' := 46) (z := (iI ((pc4 S / 2 ^ 16 : Nat) : Int))) C dJ6_bitCount_0f7a4_45 rfl (bt_ushr (by have := pc_b5 S; omega) (by decide)) ?_
  refine x_iadd (pc' := 47) C dJ6_bitCount_0f7a4_46 rfl ?_
  refine x_top (b := .int (iI ((pc5 S : Nat) : Int))) (rfl) ?_
  refine x_istore_n (pc' := 48) (lv' := [(0, .int (iI ((pc5 S : Nat) : Int)))]) C dJ6_bitCount_0f7a4_47 rfl (by decide) rfl ?_
  refine x_iload_n (pc' := 49) C 0 dJ6_bitCount_0f7a4_48 rfl rfl ?_
  refine x_bipush (pc' := 51) C dJ6_bitCount_0f7a4_49 rfl rfl ?_
  refine x_iand (pc' := 52) (z := (iI ((popc S : Nat) : Int))) C dJ6_bitCount_0f7a4_51 rfl (bt_and _ _) ?_
  exact x_iret C hr dJ6_bitCount_0f7a4_52 ⟨rfl, rfl⟩

set_option maxHeartbeats 4000000 in
set_option maxRecDepth 100000 in
theorem c_X9_groupOf (l : Launch) (E : EV) (g : Nat) (q : Nat) (hg : g < 1000000) (hq : q ≤ 5) : MC l E yX9_groupOf cX9_groupOf 2 (some .int) ({ frames := 0, cells := 0, slots := 0, locals := 0 }) [.int (iI (g : Int)), .int (iI (q : Int))] [] (fun v_ w_ => v_ = some (.int (iI ((grp g q : Nat) : Int))) ∧ w_ = []) := by
  refine MC.of (by decide +kernel) (Nat.le_of_ble_eq_true rfl) ?_
  intro p_ e_ s_ m_ args_ below_ meth_ c_ A_ C hr hnm
  have C : Cx p_ s_ m_ args_ meth_ c_ E A_ 2 cX9_groupOf RX9 := C
  show Wx _ _ _ _ _ _ _ _ _ _ _ _ _ _ _ _ 0 [(0, .int (iI (g : Int))), (1, .int (iI (q : Int)))] [] []
  refine x_iload_n (pc' := 1) C 0 dX9_groupOf_0 rfl rfl ?_
  refine x_iconst (pc' := 2) C dX9_groupOf_1 rfl ?_
  refine x_iload_n (pc' := 3) C 1 dX9_groupOf_2 rfl rfl ?_
  refine x_imul (pc' := 4) C dX9_groupOf_3 rfl ?_
  refine x_top (b := .int (iI ((3 * q : Nat) : Int))) (rfl) ?_
  refine x_ishr (pc' := 5) (z := (iI ((g / 2 ^ (3 * q) : Nat) : Int))) C dX9_groupOf_4 rfl (bt_shr (by omega) (by omega)) ?_
  refine x_bipush (pc' := 7) C dX9_groupOf_5 rfl rfl ?_
  refine x_iand (pc' := 8) (z := (iI ((grp g q : Nat) : Int))) C dX9_groupOf_7 rfl (bt_and _ _) ?_
  exact x_iret C hr dX9_groupOf_8 ⟨rfl, rfl⟩

set_option maxHeartbeats 4000000 in
set_option maxRecDepth 100000 in
theorem c_X9_unite (l : Launch) (E : EV) (g : Nat) (a : Nat) (b : Nat) (hg : g < 262144) (ha : a ≤ 7) (hb : b ≤ 7) : MC l E yX9_unite cX9_unite 5 (some .int) ({ frames := 1, cells := 0, slots := 0, locals := 21 }) [.int (iI (g : Int)), .int (iI (a : Int)), .int (iI (b : Int))] [] (fun v_ w_ => v_ = some (.int (iI ((unt g a b 6 : Nat) : Int))) ∧ w_ = []) := by
  refine MC.of (by decide +kernel) (Nat.le_of_ble_eq_true rfl) ?_
  intro p_ e_ s_ m_ args_ below_ meth_ c_ A_ C hr hnm
  have C : Cx p_ s_ m_ args_ meth_ c_ E A_ 5 cX9_unite RX9 := C
  show Wx _ _ _ _ _ _ _ _ _ _ _ _ _ _ _ _ 0 [(0, .int (iI (g : Int))), (1, .int (iI (a : Int))), (2, .int (iI (b : Int)))] [] []
  refine x_iload_n (pc' := 1) C 0 dX9_unite_0 rfl rfl ?_
  refine x_istore_n (pc' := 2) (lv' := [(3, .int (iI (g : Int))), (0, .int (iI (g : Int))), (1, .int (iI (a : Int))), (2, .int (iI (b : Int)))]) C dX9_unite_1 rfl (by decide) rfl ?_
  refine x_iconst (pc' := 3) C dX9_unite_2 rfl ?_
  refine x_istore (pc' := 5) (lv' := [(4, .int (iI 0)), (3, .int (iI (g : Int))), (0, .int (iI (g : Int))), (1, .int (iI (a : Int))), (2, .int (iI (b : Int)))]) C dX9_unite_3 rfl (by decide) rfl ?_
  refine x_lv [2, 3, 4, 1, 0] rfl ?_
  refine x_loop (α := (Nat) × (Nat)) (fun a_ => (a_.1 ≤ 6) ∧ (a_.2 = unt g a b a_.1)) (fun a_ => 6 - a_.1) (fun a_ => [(0, .int (iI (g : Int))), (1, .int (iI (a : Int))), (2, .int (iI (b : Int))), (3, .int (iI (a_.2 : Int))), (4, .int (iI (a_.1 : Int)))]) (fun a_ => []) ?_ (0, g) ?_
  · intro a_ hI_ ih5
    obtain ⟨q, u⟩ := a_
    obtain ⟨hq, hu⟩ := hI_
    replace hq : q ≤ 6 := hq
    replace hu : u = unt g a b q := hu
    show Wx _ _ _ _ _ _ _ _ _ _ _ _ _ _ _ _ 5 [(0, .int (iI (g : Int))), (1, .int (iI (a : Int))), (2, .int (iI (b : Int))), (3, .int (iI (u : Int))), (4, .int (iI (q : Int)))] [] []
    refine x_iload (pc' := 7) C 4 dX9_unite_5 rfl rfl ?_
    refine x_bipush (pc' := 9) C dX9_unite_7 rfl rfl ?_
    refine x_icmp_ge (pc' := 12) (tgt := 39) C dX9_unite_9 rfl (by decide) (by omega) (by omega) (fun c9 => ?_) (fun c9 => ?_)
    ·
      refine x_iload_n (pc' := 40) C 3 dX9_unite_39 rfl rfl ?_
      refine x_top (b := .int (iI ((unt g a b 6 : Nat) : Int))) (by rw [hu, show q = 6 by omega]) ?_
      exact x_iret C hr dX9_unite_40 ⟨rfl, rfl⟩
    ·
      have hgl := grp_le g q
      have hsh := unt_sh (p := q) ha hb (by omega)
      refine x_iload_n (pc' := 13) C 0 dX9_unite_12 rfl rfl ?_
      refine x_iload (pc' := 15) C 4 dX9_unite_13 rfl rfl ?_
      refine x_callS (pc' := 18) (As := [.int (iI (g : Int)), .int (iI (q : Int))]) (rest := []) C cs_X9_42 dX9_unite_15 rfl (c_X9_groupOf l E g q (show g < 1000000 from by omega) (show q ≤ 5 from by omega)) mm_X9_groupOf (hstk := rfl) (hlen := rfl) (hcat := Nat.le_of_ble_eq_true rfl) (isC := []) (isR := []) (wr := []) (hC := rfl) (hR := rfl) (hnC := rfl) (hn := rfl) (hdis := by decide) (hR1 := ⟨Nat.le_of_ble_eq_true rfl, Nat.le_of_ble_eq_true rfl⟩) (hcs := ⟨Nat.le_of_ble_eq_true rfl, Nat.le_of_ble_eq_true rfl⟩) (fun v_ w_ hp_ => ?_)
      obtain ⟨rfl, rfl⟩ := hp_
      show Wx _ _ _ _ _ _ _ _ _ _ _ _ _ _ _ _ 18 [(0, .int (iI (g : Int))), (1, .int (iI (a : Int))), (2, .int (iI (b : Int))), (3, .int (iI (u : Int))), (4, .int (iI (q : Int)))] [.int (iI ((grp g q : Nat) : Int))] []
      refine x_iload_n (pc' := 19) C 2 dX9_unite_18 rfl rfl ?_
      refine x_icmp_ne (pc' := 22) (tgt := 33) C dX9_unite_19 rfl (by decide) (by omega) (by omega) (fun c19 => ?_) (fun c19 => ?_)
      ·
        refine x_iinc (pc' := 36) (lv' := [(4, .int (iI ((q : Int) + 1))), (0, .int (iI (g : Int))), (1, .int (iI (a : Int))), (2, .int (iI (b : Int))), (3, .int (iI (u : Int)))]) C 4 dX9_unite_33 rfl (by decide) rfl rfl ?_
        refine x_lvI (lv' := [(4, .int (iI ((q + 1 : Nat) : Int))), (0, .int (iI (g : Int))), (1, .int (iI (a : Int))), (2, .int (iI (b : Int))), (3, .int (iI (u : Int)))]) 0 rfl (by omega) rfl ?_
        refine x_goto (tgt := 5) C dX9_unite_36 (by decide) ?_
        refine x_lv [1, 2, 3, 4, 0] rfl ?_
        exact ih5 ((q + 1), u) ⟨(show (q + 1) ≤ 6 from by omega), (show u = unt g a b (q + 1) from by first | exact unt_in hu (by omega) | exact unt_out hu (by omega))⟩ (show 6 - (q + 1) < 6 - q from by omega)
      ·
        refine x_iload_n (pc' := 23) C 3 dX9_unite_22 rfl rfl ?_
        refine x_iload_n (pc' := 24) C 1 dX9_unite_23 rfl rfl ?_
        refine x_iload_n (pc' := 25) C 2 dX9_unite_24 rfl rfl ?_
        refine x_ixor (pc' := 26) (z := (iI ((a ^^^ b : Nat) : Int))) C dX9_unite_25 rfl (bt_xor _ _) ?_
        refine x_iconst (pc' := 27) C dX9_unite_26 rfl ?_
        refine x_iload (pc' := 29) C 4 dX9_unite_27 rfl rfl ?_
        refine x_imul (pc' := 30) C dX9_unite_29 rfl ?_
        refine x_top (b := .int (iI ((3 * q : Nat) : Int))) (rfl) ?_
        refine x_ishl (pc' := 31) (z := (iI (((a ^^^ b) * 2 ^ (3 * q) : Nat) : Int))) C dX9_unite_30 rfl (bt_shl2 (by omega) hsh) ?_
        refine x_ixor (pc' := 32) (z := (iI ((u ^^^ ((a ^^^ b) * 2 ^ (3 * q)) : Nat) : Int))) C dX9_unite_31 rfl (bt_xor _ _) ?_
        refine x_istore_n (pc' := 33) (lv' := [(3, .int (iI ((u ^^^ ((a ^^^ b) * 2 ^ (3 * q)) : Nat) : Int))), (0, .int (iI (g : Int))), (1, .int (iI (a : Int))), (2, .int (iI (b : Int))), (4, .int (iI (q : Int)))]) C dX9_unite_32 rfl (by decide) rfl ?_
        refine x_iinc (pc' := 36) (lv' := [(4, .int (iI ((q : Int) + 1))), (3, .int (iI ((u ^^^ ((a ^^^ b) * 2 ^ (3 * q)) : Nat) : Int))), (0, .int (iI (g : Int))), (1, .int (iI (a : Int))), (2, .int (iI (b : Int)))]) C 4 dX9_unite_33 rfl (by decide) rfl rfl ?_
        refine x_lvI (lv' := [(4, .int (iI ((q + 1 : Nat) : Int))), (3, .int (iI ((u ^^^ ((a ^^^ b) * 2 ^ (3 * q)) : Nat) : Int))), (0, .int (iI (g : Int))), (1, .int (iI (a : Int))), (2, .int (iI (b : Int)))]) 0 rfl (by omega) rfl ?_
        refine x_goto (tgt := 5) C dX9_unite_36 (by decide) ?_
        refine x_lv [2, 3, 4, 1, 0] rfl ?_
        exact ih5 ((q + 1), (u ^^^ ((a ^^^ b) * 2 ^ (3 * q)))) ⟨(show (q + 1) ≤ 6 from by omega), (show (u ^^^ ((a ^^^ b) * 2 ^ (3 * q))) = unt g a b (q + 1) from by first | exact unt_in hu (by omega) | exact unt_out hu (by omega))⟩ (show 6 - (q + 1) < 6 - q from by omega)
  · exact ⟨(show 0 ≤ 6 from by omega), (show g = unt g a b 0 from rfl)⟩

set_option maxHeartbeats 4000000 in
set_option maxRecDepth 100000 in
theorem c_X9_hang_0 (l : Launch) (E : EV) (k : Nat) (lk : Nat) (la_ : Nat) (lb_ : Nat) (lf_ : Nat) (lt_ : Nat) (nl : Nat) (s0 : Int) (lf : Nat → Int) (lt : Nat → Int) (h : Nat) (hb : Nat) (ha : Nat) (hc : Nat) (sg : Int) (fb : Nat → Int) (n : Nat) (m : Nat) (tree : Nat) (g : Nat) (link : Int) (xs : List Nat) (hnl : nl ≤ 14) (hlf : ∀ j_ : Nat, j_ < nl → 0 ≤ lf j_ ∧ lf j_ ≤ 5) (hlt : ∀ j_ : Nat, j_ < nl → 0 ≤ lt j_ ∧ lt j_ ≤ 5) (hcap : (hg lf lt m tree g).length + xs.length ≤ 2002) (hm : (link + 1).toNat = m ∧ -1 ≤ link) (hmL : m ≤ 0 ∧ m ≤ nl) (htr : tree < 16384) (hgg : g < 262144) (hlen : xs.length = n) (hls : LsA fb xs) (hso : xs.Pairwise (· ≤ ·)) (hbd : ∀ x_ ∈ xs, x_ < 16384) : MC l E yX9_hang cX9_hang 8 (none) ({ frames := 1, cells := 0, slots := 0, locals := 22 }) [.ref k, .int (iI link), .int (iI (tree : Int)), .int (iI (g : Int)), .ref h] [(k, ob 8 [.ref lk, .int (iI s0), .ref lk]), (lk, ob 2 [.ref la_, .ref lb_, .int (iI (nl : Int)), .ref lf_, .ref lt_]), (lf_, ia E 14 lf), (lt_, ia E 14 lt), (h, ob 7 [.ref hb, .ref ha, .ref hc, .int (iI (n : Int)), .int (iI sg)]), (hb, ia E 2002 fb)] (fun v_ w_ => ∃ (n2 : Nat) (fb2 : Nat → Int) (xs2 : List Nat), v_ = none ∧ w_ = [(k, ob 8 [.ref lk, .int (iI s0), .ref lk]), (lk, ob 2 [.ref la_, .ref lb_, .int (iI (nl : Int)), .ref lf_, .ref lt_]), (lf_, ia E 14 lf), (lt_, ia E 14 lt), (h, ob 7 [.ref hb, .ref ha, .ref hc, .int (iI (n2 : Int)), .int (iI sg)]), (hb, ia E 2002 fb2)] ∧ (xs2.length = n2) ∧ (LsA fb2 xs2) ∧ (xs2.Pairwise (· ≤ ·)) ∧ (xs2.Perm (hg lf lt m tree g ++ xs)) ∧ (∀ x_ ∈ xs2, x_ < 16384)) := by
  refine MC.of (by decide +kernel) (Nat.le_of_ble_eq_true rfl) ?_
  intro p_ e_ s_ m_ args_ below_ meth_ c_ A_ C hr hnm
  have C : Cx p_ s_ m_ args_ meth_ c_ E A_ 8 cX9_hang RX9 := C
  have hpc := popc_le tree
  show Wx _ _ _ _ _ _ _ _ _ _ _ _ _ _ _ _ 0 [(0, .ref k), (1, .int (iI link)), (2, .int (iI (tree : Int))), (3, .int (iI (g : Int))), (4, .ref h)] [] [(k, ob 8 [.ref lk, .int (iI s0), .ref lk]), (lk, ob 2 [.ref la_, .ref lb_, .int (iI (nl : Int)), .ref lf_, .ref lt_]), (lf_, ia E 14 lf), (lt_, ia E 14 lt), (h, ob 7 [.ref hb, .ref ha, .ref hc, .int (iI (n : Int)), .int (iI sg)]), (hb, ia E 2002 fb)]
  refine x_iconst (pc' := 1) C dX9_hang_0 rfl ?_
  refine x_iload_n (pc' := 2) C 2 dX9_hang_1 rfl rfl ?_
  refine x_callS (pc' := 5) (As := [.int (iI (tree : Int))]) (rest := [.int (iI 5)]) C cs_X9_26 dX9_hang_2 rfl (c_J6_bitCount_0f7a4 l E tree (show tree < 1000000 from by omega)) mm_J6_bitCount_0f7a4 (hstk := rfl) (hlen := rfl) (hcat := Nat.le_of_ble_eq_true rfl) (isC := []) (isR := [0, 1, 2, 3, 4, 5]) (wr := [(k, ob 8 [.ref lk, .int (iI s0), .ref lk]), (lk, ob 2 [.ref la_, .ref lb_, .int (iI (nl : Int)), .ref lf_, .ref lt_]), (lf_, ia E 14 lf), (lt_, ia E 14 lt), (h, ob 7 [.ref hb, .ref ha, .ref hc, .int (iI (n : Int)), .int (iI sg)]), (hb, ia E 2002 fb)]) (hC := rfl) (hR := rfl) (hnC := rfl) (hn := rfl) (hdis := by decide) (hR1 := ⟨Nat.le_of_ble_eq_true rfl, Nat.le_of_ble_eq_true rfl⟩) (hcs := ⟨Nat.le_of_ble_eq_true rfl, Nat.le_of_ble_eq_true rfl⟩) (fun v_ w_ hp_ => ?_)
  obtain ⟨rfl, rfl⟩ := hp_
  show Wx _ _ _ _ _ _ _ _ _ _ _ _ _ _ _ _ 5 [(0, .ref k), (1, .int (iI link)), (2, .int (iI (tree : Int))), (3, .int (iI (g : Int))), (4, .ref h)] [.int (iI ((popc tree : Nat) : Int)), .int (iI 5)] [(k, ob 8 [.ref lk, .int (iI s0), .ref lk]), (lk, ob 2 [.ref la_, .ref lb_, .int (iI (nl : Int)), .ref lf_, .ref lt_]), (lf_, ia E 14 lf), (lt_, ia E 14 lt), (h, ob 7 [.ref hb, .ref ha, .ref hc, .int (iI (n : Int)), .int (iI sg)]), (hb, ia E 2002 fb)]
  refine x_isub (pc' := 6) C dX9_hang_5 rfl ?_
  refine x_istore (pc' := 8) (lv' := [(5, .int (iI (5 - ((popc tree : Nat) : Int)))), (0, .ref k), (1, .int (iI link)), (2, .int (iI (tree : Int))), (3, .int (iI (g : Int))), (4, .ref h)]) C dX9_hang_6 rfl (by decide) rfl ?_
  refine x_iload (pc' := 10) C 0 dX9_hang_8 rfl rfl ?_
  refine x_if_ne (pc' := 13) (tgt := 20) C dX9_hang_10 rfl (by decide) (by omega) (fun c10 => ?_) (fun c10 => ?_)
  ·
    refine x_iload_n (pc' := 21) C 2 dX9_hang_20 rfl rfl ?_
    refine x_if_lt (pc' := 24) (tgt := 43) C dX9_hang_21 rfl (by decide) (by omega) (fun c21 => ?_) (fun c21 => ?_)
    ·
      exact x_vret C hr dX9_hang_43 ⟨n, fb, xs, rfl, rfl, (show xs.length = n from hlen), (show LsA fb xs from hls), (show xs.Pairwise (· ≤ ·) from hso), (show xs.Perm (hg lf lt m tree g ++ xs) from by rw [hg_0 (by omega) (by omega)]; exact List.Perm.refl _), (show ∀ x_ ∈ xs, x_ < 16384 from hbd)⟩
    ·
      exact absurd c21 (by omega)
  ·
    refine x_aload (pc' := 15) C 5 dX9_hang_13 rfl rfl ?_
    refine x_iload_n (pc' := 16) C 3 dX9_hang_15 rfl rfl ?_
    refine x_callV (pc' := 19) (As := [.int (iI (tree : Int))]) (rest := []) (q0 := 0) C rfl rfl cv_X9_32_X8 dX9_hang_16 rfl (c_X8_insert l E h hb ha hc n tree sg fb xs (show n < 2002 from by rw [hg_5 (show popc tree = 5 by omega), List.length_singleton] at hcap; omega) (show tree < 1000000 from by omega) (show xs.length = n from hlen) (show LsA fb xs from hls) (show xs.Pairwise (· ≤ ·) from hso) (show ∀ j (h : j < xs.length), xs[j] < 1000000 from get_bd (fun x_ hx_ => Nat.lt_trans (hbd x_ hx_) (by decide)))) mm_X8_insert (hstk := rfl) (hlen := rfl) (hcat := Nat.le_of_ble_eq_true rfl) (isC := [4, 5]) (isR := [0, 1, 2, 3]) (wr := [(k, ob 8 [.ref lk, .int (iI s0), .ref lk]), (lk, ob 2 [.ref la_, .ref lb_, .int (iI (nl : Int)), .ref lf_, .ref lt_]), (lf_, ia E 14 lf), (lt_, ia E 14 lt)]) (hC := rfl) (hR := rfl) (hnC := rfl) (hn := rfl) (hdis := by decide) (hR1 := ⟨Nat.le_of_ble_eq_true rfl, Nat.le_of_ble_eq_true rfl⟩) (hcs := ⟨Nat.le_of_ble_eq_true rfl, Nat.le_of_ble_eq_true rfl⟩) (fun v_ w_ hp_ => ?_)
    obtain ⟨fb2_16, xs2_16, rfl, rfl, g16_l, g16_s, g16_o, g16_p⟩ := hp_
    replace g16_l : xs2_16.length = n + 1 := g16_l
    replace g16_s : LsA fb2_16 xs2_16 := g16_s
    replace g16_o : xs2_16.Pairwise (· ≤ ·) := g16_o
    replace g16_p : xs2_16.Perm (tree :: xs) := g16_p
    show Wx _ _ _ _ _ _ _ _ _ _ _ _ _ _ _ _ 19 [(5, .int (iI (5 - ((popc tree : Nat) : Int)))), (0, .ref k), (1, .int (iI link)), (2, .int (iI (tree : Int))), (3, .int (iI (g : Int))), (4, .ref h)] [] [(k, ob 8 [.ref lk, .int (iI s0), .ref lk]), (lk, ob 2 [.ref la_, .ref lb_, .int (iI (nl : Int)), .ref lf_, .ref lt_]), (lf_, ia E 14 lf), (lt_, ia E 14 lt), (h, ob 7 [.ref hb, .ref ha, .ref hc, .int (iI ((n + 1 : Nat) : Int)), .int (iI sg)]), (hb, ia E 2002 fb2_16)]
    exact x_vret C hr dX9_hang_19 ⟨(n + 1), fb2_16, xs2_16, rfl, rfl, (show xs2_16.length = (n + 1) from g16_l), (show LsA fb2_16 xs2_16 from g16_s), (show xs2_16.Pairwise (· ≤ ·) from g16_o), (show xs2_16.Perm (hg lf lt m tree g ++ xs) from by rw [hg_5 (show popc tree = 5 by omega)]; exact g16_p), (show ∀ x_ ∈ xs2_16, x_ < 16384 from mem_bd (L := [tree]) g16_p (one_bd htr) hbd)⟩

set_option maxHeartbeats 4000000 in
set_option maxRecDepth 100000 in
theorem c_X9_hang_1 (l : Launch) (E : EV) (k : Nat) (lk : Nat) (la_ : Nat) (lb_ : Nat) (lf_ : Nat) (lt_ : Nat) (nl : Nat) (s0 : Int) (lf : Nat → Int) (lt : Nat → Int) (h : Nat) (hb : Nat) (ha : Nat) (hc : Nat) (sg : Int) (fb : Nat → Int) (n : Nat) (m : Nat) (tree : Nat) (g : Nat) (link : Int) (xs : List Nat) (hnl : nl ≤ 14) (hlf : ∀ j_ : Nat, j_ < nl → 0 ≤ lf j_ ∧ lf j_ ≤ 5) (hlt : ∀ j_ : Nat, j_ < nl → 0 ≤ lt j_ ∧ lt j_ ≤ 5) (hcap : (hg lf lt m tree g).length + xs.length ≤ 2002) (hm : (link + 1).toNat = m ∧ -1 ≤ link) (hmL : m ≤ 1 ∧ m ≤ nl) (htr : tree < 16384) (hgg : g < 262144) (hlen : xs.length = n) (hls : LsA fb xs) (hso : xs.Pairwise (· ≤ ·)) (hbd : ∀ x_ ∈ xs, x_ < 16384) : MC l E yX9_hang cX9_hang 8 (none) ({ frames := 2, cells := 0, slots := 0, locals := 49 }) [.ref k, .int (iI link), .int (iI (tree : Int)), .int (iI (g : Int)), .ref h] [(k, ob 8 [.ref lk, .int (iI s0), .ref lk]), (lk, ob 2 [.ref la_, .ref lb_, .int (iI (nl : Int)), .ref lf_, .ref lt_]), (lf_, ia E 14 lf), (lt_, ia E 14 lt), (h, ob 7 [.ref hb, .ref ha, .ref hc, .int (iI (n : Int)), .int (iI sg)]), (hb, ia E 2002 fb)] (fun v_ w_ => ∃ (n2 : Nat) (fb2 : Nat → Int) (xs2 : List Nat), v_ = none ∧ w_ = [(k, ob 8 [.ref lk, .int (iI s0), .ref lk]), (lk, ob 2 [.ref la_, .ref lb_, .int (iI (nl : Int)), .ref lf_, .ref lt_]), (lf_, ia E 14 lf), (lt_, ia E 14 lt), (h, ob 7 [.ref hb, .ref ha, .ref hc, .int (iI (n2 : Int)), .int (iI sg)]), (hb, ia E 2002 fb2)] ∧ (xs2.length = n2) ∧ (LsA fb2 xs2) ∧ (xs2.Pairwise (· ≤ ·)) ∧ (xs2.Perm (hg lf lt m tree g ++ xs)) ∧ (∀ x_ ∈ xs2, x_ < 16384)) := by
  refine MC.of (by decide +kernel) (Nat.le_of_ble_eq_true rfl) ?_
  intro p_ e_ s_ m_ args_ below_ meth_ c_ A_ C hr hnm
  have C : Cx p_ s_ m_ args_ meth_ c_ E A_ 8 cX9_hang RX9 := C
  have hpc := popc_le tree
  show Wx _ _ _ _ _ _ _ _ _ _ _ _ _ _ _ _ 0 [(0, .ref k), (1, .int (iI link)), (2, .int (iI (tree : Int))), (3, .int (iI (g : Int))), (4, .ref h)] [] [(k, ob 8 [.ref lk, .int (iI s0), .ref lk]), (lk, ob 2 [.ref la_, .ref lb_, .int (iI (nl : Int)), .ref lf_, .ref lt_]), (lf_, ia E 14 lf), (lt_, ia E 14 lt), (h, ob 7 [.ref hb, .ref ha, .ref hc, .int (iI (n : Int)), .int (iI sg)]), (hb, ia E 2002 fb)]
  refine x_iconst (pc' := 1) C dX9_hang_0 rfl ?_
  refine x_iload_n (pc' := 2) C 2 dX9_hang_1 rfl rfl ?_
  refine x_callS (pc' := 5) (As := [.int (iI (tree : Int))]) (rest := [.int (iI 5)]) C cs_X9_26 dX9_hang_2 rfl (c_J6_bitCount_0f7a4 l E tree (show tree < 1000000 from by omega)) mm_J6_bitCount_0f7a4 (hstk := rfl) (hlen := rfl) (hcat := Nat.le_of_ble_eq_true rfl) (isC := []) (isR := [0, 1, 2, 3, 4, 5]) (wr := [(k, ob 8 [.ref lk, .int (iI s0), .ref lk]), (lk, ob 2 [.ref la_, .ref lb_, .int (iI (nl : Int)), .ref lf_, .ref lt_]), (lf_, ia E 14 lf), (lt_, ia E 14 lt), (h, ob 7 [.ref hb, .ref ha, .ref hc, .int (iI (n : Int)), .int (iI sg)]), (hb, ia E 2002 fb)]) (hC := rfl) (hR := rfl) (hnC := rfl) (hn := rfl) (hdis := by decide) (hR1 := ⟨Nat.le_of_ble_eq_true rfl, Nat.le_of_ble_eq_true rfl⟩) (hcs := ⟨Nat.le_of_ble_eq_true rfl, Nat.le_of_ble_eq_true rfl⟩) (fun v_ w_ hp_ => ?_)
  obtain ⟨rfl, rfl⟩ := hp_
  show Wx _ _ _ _ _ _ _ _ _ _ _ _ _ _ _ _ 5 [(0, .ref k), (1, .int (iI link)), (2, .int (iI (tree : Int))), (3, .int (iI (g : Int))), (4, .ref h)] [.int (iI ((popc tree : Nat) : Int)), .int (iI 5)] [(k, ob 8 [.ref lk, .int (iI s0), .ref lk]), (lk, ob 2 [.ref la_, .ref lb_, .int (iI (nl : Int)), .ref lf_, .ref lt_]), (lf_, ia E 14 lf), (lt_, ia E 14 lt), (h, ob 7 [.ref hb, .ref ha, .ref hc, .int (iI (n : Int)), .int (iI sg)]), (hb, ia E 2002 fb)]
  refine x_isub (pc' := 6) C dX9_hang_5 rfl ?_
  refine x_istore (pc' := 8) (lv' := [(5, .int (iI (5 - ((popc tree : Nat) : Int)))), (0, .ref k), (1, .int (iI link)), (2, .int (iI (tree : Int))), (3, .int (iI (g : Int))), (4, .ref h)]) C dX9_hang_6 rfl (by decide) rfl ?_
  refine x_iload (pc' := 10) C 0 dX9_hang_8 rfl rfl ?_
  refine x_if_ne (pc' := 13) (tgt := 20) C dX9_hang_10 rfl (by decide) (by omega) (fun c10 => ?_) (fun c10 => ?_)
  ·
    refine x_iload_n (pc' := 21) C 2 dX9_hang_20 rfl rfl ?_
    refine x_if_lt (pc' := 24) (tgt := 43) C dX9_hang_21 rfl (by decide) (by omega) (fun c21 => ?_) (fun c21 => ?_)
    ·
      exact x_vret C hr dX9_hang_43 ⟨n, fb, xs, rfl, rfl, (show xs.length = n from hlen), (show LsA fb xs from hls), (show xs.Pairwise (· ≤ ·) from hso), (show xs.Perm (hg lf lt m tree g ++ xs) from by rw [hg_0 (by omega) (by omega)]; exact List.Perm.refl _), (show ∀ x_ ∈ xs, x_ < 16384 from hbd)⟩
    ·
      refine x_iload_n (pc' := 25) C 2 dX9_hang_24 rfl rfl ?_
      refine x_aload_n (pc' := 26) C 1 dX9_hang_25 rfl rfl ?_
      refine x_get (pc' := 29) C dX9_hang_26 rfl ff_X9_9_8 0 rfl rfl ?_
      refine x_get (pc' := 32) C dX9_hang_29 rfl ff_X9_15_2 1 rfl rfl ?_
      refine x_icmp_ge (pc' := 35) (tgt := 43) C dX9_hang_32 rfl (by decide) (by omega) (by omega) (fun c32 => ?_) (fun c32 => ?_)
      ·
        exact absurd c32 (by omega)
      ·
        refine x_iload_n (pc' := 36) C 2 dX9_hang_35 rfl rfl ?_
        refine x_iconst (pc' := 37) C dX9_hang_36 rfl ?_
        refine x_iadd (pc' := 38) C dX9_hang_37 rfl ?_
        refine x_iload (pc' := 40) C 0 dX9_hang_38 rfl rfl ?_
        refine x_icmp_ge (pc' := 43) (tgt := 44) C dX9_hang_40 rfl (by decide) (by omega) (by omega) (fun c40 => ?_) (fun c40 => ?_)
        ·
          have hV := hg_s (lf := lf) (lt := lt) (m := m) (tree := tree) (g := g) (by omega) (by omega) (by omega)
          have hf1 := hlf (m - 1) (by omega)
          have ht1 := hlt (m - 1) (by omega)
          have hga := grp_le g (lf (m - 1)).toNat
          have hgb := grp_le g (lt (m - 1)).toNat
          refine x_aload_n (pc' := 45) C 1 dX9_hang_44 rfl rfl ?_
          refine x_iload_n (pc' := 46) C 2 dX9_hang_45 rfl rfl ?_
          refine x_iconst (pc' := 47) C dX9_hang_46 rfl ?_
          refine x_isub (pc' := 48) C dX9_hang_47 rfl ?_
          refine x_iload_n (pc' := 49) C 3 dX9_hang_48 rfl rfl ?_
          refine x_iload_n (pc' := 50) C 4 dX9_hang_49 rfl rfl ?_
          refine x_aload (pc' := 52) C 5 dX9_hang_50 rfl rfl ?_
          refine x_callV (pc' := 55) (As := [.int (iI (link - 1)), .int (iI (tree : Int)), .int (iI (g : Int)), .ref h]) (rest := []) (q0 := 0) C rfl rfl cv_X9_22_X9 dX9_hang_52 rfl (c_X9_hang_0 l E k lk la_ lb_ lf_ lt_ nl s0 lf lt h hb ha hc sg fb n (m - 1) tree g (link - 1) xs (show nl ≤ 14 from by omega) (show ∀ j_ : Nat, j_ < nl → 0 ≤ lf j_ ∧ lf j_ ≤ 5 from hlf) (show ∀ j_ : Nat, j_ < nl → 0 ≤ lt j_ ∧ lt j_ ≤ 5 from hlt) (show (hg lf lt (m - 1) tree g).length + xs.length ≤ 2002 from by rw [hV, List.length_append] at hcap; omega) (show ((link - 1) + 1).toNat = (m - 1) ∧ -1 ≤ (link - 1) from by omega) (show (m - 1) ≤ 0 ∧ (m - 1) ≤ nl from by omega) (show tree < 16384 from htr) (show g < 262144 from hgg) (show xs.length = n from hlen) (show LsA fb xs from hls) (show xs.Pairwise (· ≤ ·) from hso) (show ∀ x_ ∈ xs, x_ < 16384 from hbd)) mm_X9_hang (hstk := rfl) (hlen := rfl) (hcat := Nat.le_of_ble_eq_true rfl) (isC := [0, 1, 2, 3, 4, 5]) (isR := []) (wr := []) (hC := rfl) (hR := rfl) (hnC := rfl) (hn := rfl) (hdis := by decide) (hR1 := ⟨Nat.le_of_ble_eq_true rfl, Nat.le_of_ble_eq_true rfl⟩) (hcs := ⟨Nat.le_of_ble_eq_true rfl, Nat.le_of_ble_eq_true rfl⟩) (fun v_ w_ hp_ => ?_)
          obtain ⟨n2_52, fb2_52, xs2_52, rfl, rfl, g52_l, g52_s, g52_o, g52_p, g52_b⟩ := hp_
          replace g52_l : xs2_52.length = n2_52 := g52_l
          replace g52_s : LsA fb2_52 xs2_52 := g52_s
          replace g52_o : xs2_52.Pairwise (· ≤ ·) := g52_o
          replace g52_p : xs2_52.Perm (hg lf lt (m - 1) tree g ++ xs) := g52_p
          replace g52_b : ∀ x_ ∈ xs2_52, x_ < 16384 := g52_b
          show Wx _ _ _ _ _ _ _ _ _ _ _ _ _ _ _ _ 55 [(5, .int (iI (5 - ((popc tree : Nat) : Int)))), (0, .ref k), (1, .int (iI link)), (2, .int (iI (tree : Int))), (3, .int (iI (g : Int))), (4, .ref h)] [] [(k, ob 8 [.ref lk, .int (iI s0), .ref lk]), (lk, ob 2 [.ref la_, .ref lb_, .int (iI (nl : Int)), .ref lf_, .ref lt_]), (lf_, ia E 14 lf), (lt_, ia E 14 lt), (h, ob 7 [.ref hb, .ref ha, .ref hc, .int (iI (n2_52 : Int)), .int (iI sg)]), (hb, ia E 2002 fb2_52)]
          refine x_iload_n (pc' := 56) C 4 dX9_hang_55 rfl rfl ?_
          refine x_aload_n (pc' := 57) C 1 dX9_hang_56 rfl rfl ?_
          refine x_get (pc' := 60) C dX9_hang_57 rfl ff_X9_9_8 0 rfl rfl ?_
          refine x_get (pc' := 63) C dX9_hang_60 rfl ff_X9_38_2 1 rfl rfl ?_
          refine x_iload_n (pc' := 64) C 2 dX9_hang_63 rfl rfl ?_
          refine x_iald (pc' := 65) C (m - 1) dX9_hang_64 rfl 2 rfl (by omega) (by omega) (by omega) ?_
          refine x_top (b := .int (iI (((lf (m - 1)).toNat : Nat) : Int))) (by congr 2; omega) ?_
          refine x_callS (pc' := 68) (As := [.int (iI (g : Int)), .int (iI (((lf (m - 1)).toNat : Nat) : Int))]) (rest := []) C cs_X9_42 dX9_hang_65 rfl (c_X9_groupOf l E g ((lf (m - 1)).toNat) (show g < 1000000 from by omega) (show ((lf (m - 1)).toNat) ≤ 5 from by omega)) mm_X9_groupOf (hstk := rfl) (hlen := rfl) (hcat := Nat.le_of_ble_eq_true rfl) (isC := []) (isR := [0, 1, 2, 3, 4, 5]) (wr := [(k, ob 8 [.ref lk, .int (iI s0), .ref lk]), (lk, ob 2 [.ref la_, .ref lb_, .int (iI (nl : Int)), .ref lf_, .ref lt_]), (lf_, ia E 14 lf), (lt_, ia E 14 lt), (h, ob 7 [.ref hb, .ref ha, .ref hc, .int (iI (n2_52 : Int)), .int (iI sg)]), (hb, ia E 2002 fb2_52)]) (hC := rfl) (hR := rfl) (hnC := rfl) (hn := rfl) (hdis := by decide) (hR1 := ⟨Nat.le_of_ble_eq_true rfl, Nat.le_of_ble_eq_true rfl⟩) (hcs := ⟨Nat.le_of_ble_eq_true rfl, Nat.le_of_ble_eq_true rfl⟩) (fun v_ w_ hp_ => ?_)
          obtain ⟨rfl, rfl⟩ := hp_
          show Wx _ _ _ _ _ _ _ _ _ _ _ _ _ _ _ _ 68 [(5, .int (iI (5 - ((popc tree : Nat) : Int)))), (0, .ref k), (1, .int (iI link)), (2, .int (iI (tree : Int))), (3, .int (iI (g : Int))), (4, .ref h)] [.int (iI ((grp g ((lf (m - 1)).toNat) : Nat) : Int))] [(k, ob 8 [.ref lk, .int (iI s0), .ref lk]), (lk, ob 2 [.ref la_, .ref lb_, .int (iI (nl : Int)), .ref lf_, .ref lt_]), (lf_, ia E 14 lf), (lt_, ia E 14 lt), (h, ob 7 [.ref hb, .ref ha, .ref hc, .int (iI (n2_52 : Int)), .int (iI sg)]), (hb, ia E 2002 fb2_52)]
          refine x_istore (pc' := 70) (lv' := [(6, .int (iI ((grp g ((lf (m - 1)).toNat) : Nat) : Int))), (5, .int (iI (5 - ((popc tree : Nat) : Int)))), (0, .ref k), (1, .int (iI link)), (2, .int (iI (tree : Int))), (3, .int (iI (g : Int))), (4, .ref h)]) C dX9_hang_68 rfl (by decide) rfl ?_
          refine x_iload_n (pc' := 71) C 5 dX9_hang_70 rfl rfl ?_
          refine x_aload_n (pc' := 72) C 2 dX9_hang_71 rfl rfl ?_
          refine x_get (pc' := 75) C dX9_hang_72 rfl ff_X9_9_8 0 rfl rfl ?_
          refine x_get (pc' := 78) C dX9_hang_75 rfl ff_X9_46_2 1 rfl rfl ?_
          refine x_iload_n (pc' := 79) C 3 dX9_hang_78 rfl rfl ?_
          refine x_iald (pc' := 80) C (m - 1) dX9_hang_79 rfl 3 rfl (by omega) (by omega) (by omega) ?_
          refine x_top (b := .int (iI (((lt (m - 1)).toNat : Nat) : Int))) (by congr 2; omega) ?_
          refine x_callS (pc' := 83) (As := [.int (iI (g : Int)), .int (iI (((lt (m - 1)).toNat : Nat) : Int))]) (rest := []) C cs_X9_42 dX9_hang_80 rfl (c_X9_groupOf l E g ((lt (m - 1)).toNat) (show g < 1000000 from by omega) (show ((lt (m - 1)).toNat) ≤ 5 from by omega)) mm_X9_groupOf (hstk := rfl) (hlen := rfl) (hcat := Nat.le_of_ble_eq_true rfl) (isC := []) (isR := [0, 1, 2, 3, 4, 5]) (wr := [(k, ob 8 [.ref lk, .int (iI s0), .ref lk]), (lk, ob 2 [.ref la_, .ref lb_, .int (iI (nl : Int)), .ref lf_, .ref lt_]), (lf_, ia E 14 lf), (lt_, ia E 14 lt), (h, ob 7 [.ref hb, .ref ha, .ref hc, .int (iI (n2_52 : Int)), .int (iI sg)]), (hb, ia E 2002 fb2_52)]) (hC := rfl) (hR := rfl) (hnC := rfl) (hn := rfl) (hdis := by decide) (hR1 := ⟨Nat.le_of_ble_eq_true rfl, Nat.le_of_ble_eq_true rfl⟩) (hcs := ⟨Nat.le_of_ble_eq_true rfl, Nat.le_of_ble_eq_true rfl⟩) (fun v_ w_ hp_ => ?_)
          obtain ⟨rfl, rfl⟩ := hp_
          show Wx _ _ _ _ _ _ _ _ _ _ _ _ _ _ _ _ 83 [(6, .int (iI ((grp g ((lf (m - 1)).toNat) : Nat) : Int))), (5, .int (iI (5 - ((popc tree : Nat) : Int)))), (0, .ref k), (1, .int (iI link)), (2, .int (iI (tree : Int))), (3, .int (iI (g : Int))), (4, .ref h)] [.int (iI ((grp g ((lt (m - 1)).toNat) : Nat) : Int))] [(k, ob 8 [.ref lk, .int (iI s0), .ref lk]), (lk, ob 2 [.ref la_, .ref lb_, .int (iI (nl : Int)), .ref lf_, .ref lt_]), (lf_, ia E 14 lf), (lt_, ia E 14 lt), (h, ob 7 [.ref hb, .ref ha, .ref hc, .int (iI (n2_52 : Int)), .int (iI sg)]), (hb, ia E 2002 fb2_52)]
          refine x_istore (pc' := 85) (lv' := [(7, .int (iI ((grp g ((lt (m - 1)).toNat) : Nat) : Int))), (6, .int (iI ((grp g ((lf (m - 1)).toNat) : Nat) : Int))), (5, .int (iI (5 - ((popc tree : Nat) : Int)))), (0, .ref k), (1, .int (iI link)), (2, .int (iI (tree : Int))), (3, .int (iI (g : Int))), (4, .ref h)]) C dX9_hang_83 rfl (by decide) rfl ?_
          refine x_iload (pc' := 87) C 1 dX9_hang_85 rfl rfl ?_
          refine x_iload (pc' := 89) C 0 dX9_hang_87 rfl rfl ?_
          refine x_icmp_eq (pc' := 92) (tgt := 114) C dX9_hang_89 rfl (by decide) (by omega) (by omega) (fun c89 => ?_) (fun c89 => ?_)
          ·
            exact x_vret C hr dX9_hang_114 ⟨n2_52, fb2_52, xs2_52, rfl, rfl, (show xs2_52.length = n2_52 from g52_l), (show LsA fb2_52 xs2_52 from g52_s), (show xs2_52.Pairwise (· ≤ ·) from g52_o), (show xs2_52.Perm (hg lf lt m tree g ++ xs) from two_perm (W := []) (by rw [hV, if_pos (by omega)]) g52_p (List.Perm.refl _)), (show ∀ x_ ∈ xs2_52, x_ < 16384 from g52_b)⟩
          ·
            have hV2 := hV
            rw [if_neg (by omega)] at hV2
            refine x_aload_n (pc' := 93) C 3 dX9_hang_92 rfl rfl ?_
            refine x_iload_n (pc' := 94) C 4 dX9_hang_93 rfl rfl ?_
            refine x_iconst (pc' := 95) C dX9_hang_94 rfl ?_
            refine x_isub (pc' := 96) C dX9_hang_95 rfl ?_
            refine x_iload_n (pc' := 97) C 5 dX9_hang_96 rfl rfl ?_
            refine x_iconst (pc' := 98) C dX9_hang_97 rfl ?_
            refine x_iload_n (pc' := 99) C 4 dX9_hang_98 rfl rfl ?_
            refine x_ishl (pc' := 100) (z := (iI ((2 ^ (m - 1) : Nat) : Int))) C dX9_hang_99 rfl (by rw [show link = ((m - 1 : Nat) : Int) by omega]; exact bt_shl (by omega)) ?_
            refine x_ior (pc' := 101) (z := (iI ((tree ||| 2 ^ (m - 1) : Nat) : Int))) C dX9_hang_100 rfl (bt_or _ _) ?_
            refine x_iload_n (pc' := 102) C 6 dX9_hang_101 rfl rfl ?_
            refine x_iload (pc' := 104) C 1 dX9_hang_102 rfl rfl ?_
            refine x_iload (pc' := 106) C 0 dX9_hang_104 rfl rfl ?_
            refine x_callS (pc' := 109) (As := [.int (iI (g : Int)), .int (iI ((grp g ((lf (m - 1)).toNat) : Nat) : Int)), .int (iI ((grp g ((lt (m - 1)).toNat) : Nat) : Int))]) (rest := [.int (iI ((tree ||| 2 ^ (m - 1) : Nat) : Int)), .int (iI (link - 1)), .ref k]) C cs_X9_49 dX9_hang_106 rfl (c_X9_unite l E g (grp g ((lf (m - 1)).toNat)) (grp g ((lt (m - 1)).toNat)) (show g < 262144 from by omega) (show (grp g ((lf (m - 1)).toNat)) ≤ 7 from by omega) (show (grp g ((lt (m - 1)).toNat)) ≤ 7 from by omega)) mm_X9_unite (hstk := rfl) (hlen := rfl) (hcat := Nat.le_of_ble_eq_true rfl) (isC := []) (isR := [0, 1, 2, 3, 4, 5]) (wr := [(k, ob 8 [.ref lk, .int (iI s0), .ref lk]), (lk, ob 2 [.ref la_, .ref lb_, .int (iI (nl : Int)), .ref lf_, .ref lt_]), (lf_, ia E 14 lf), (lt_, ia E 14 lt), (h, ob 7 [.ref hb, .ref ha, .ref hc, .int (iI (n2_52 : Int)), .int (iI sg)]), (hb, ia E 2002 fb2_52)]) (hC := rfl) (hR := rfl) (hnC := rfl) (hn := rfl) (hdis := by decide) (hR1 := ⟨Nat.le_of_ble_eq_true rfl, Nat.le_of_ble_eq_true rfl⟩) (hcs := ⟨Nat.le_of_ble_eq_true rfl, Nat.le_of_ble_eq_true rfl⟩) (fun v_ w_ hp_ => ?_)
            obtain ⟨rfl, rfl⟩ := hp_
            show Wx _ _ _ _ _ _ _ _ _ _ _ _ _ _ _ _ 109 [(7, .int (iI ((grp g ((lt (m - 1)).toNat) : Nat) : Int))), (6, .int (iI ((grp g ((lf (m - 1)).toNat) : Nat) : Int))), (5, .int (iI (5 - ((popc tree : Nat) : Int)))), (0, .ref k), (1, .int (iI link)), (2, .int (iI (tree : Int))), (3, .int (iI (g : Int))), (4, .ref h)] [.int (iI ((unt g (grp g ((lf (m - 1)).toNat)) (grp g ((lt (m - 1)).toNat)) 6 : Nat) : Int)), .int (iI ((tree ||| 2 ^ (m - 1) : Nat) : Int)), .int (iI (link - 1)), .ref k] [(k, ob 8 [.ref lk, .int (iI s0), .ref lk]), (lk, ob 2 [.ref la_, .ref lb_, .int (iI (nl : Int)), .ref lf_, .ref lt_]), (lf_, ia E 14 lf), (lt_, ia E 14 lt), (h, ob 7 [.ref hb, .ref ha, .ref hc, .int (iI (n2_52 : Int)), .int (iI sg)]), (hb, ia E 2002 fb2_52)]
            refine x_aload (pc' := 111) C 7 dX9_hang_109 rfl rfl ?_
            refine x_callV (pc' := 114) (As := [.int (iI (link - 1)), .int (iI ((tree ||| 2 ^ (m - 1) : Nat) : Int)), .int (iI ((unt g (grp g ((lf (m - 1)).toNat)) (grp g ((lt (m - 1)).toNat)) 6 : Nat) : Int)), .ref h]) (rest := []) (q0 := 0) C rfl rfl cv_X9_22_X9 dX9_hang_111 rfl (c_X9_hang_0 l E k lk la_ lb_ lf_ lt_ nl s0 lf lt h hb ha hc sg fb2_52 n2_52 (m - 1) (tree ||| 2 ^ (m - 1)) (unt g (grp g ((lf (m - 1)).toNat)) (grp g ((lt (m - 1)).toNat)) 6) (link - 1) xs2_52 (show nl ≤ 14 from by omega) (show ∀ j_ : Nat, j_ < nl → 0 ≤ lf j_ ∧ lf j_ ≤ 5 from hlf) (show ∀ j_ : Nat, j_ < nl → 0 ≤ lt j_ ∧ lt j_ ≤ 5 from hlt) (show (hg lf lt (m - 1) (tree ||| 2 ^ (m - 1)) (unt g (grp g ((lf (m - 1)).toNat)) (grp g ((lt (m - 1)).toNat)) 6)).length + xs2_52.length ≤ 2002 from by have hq_ := g52_p.length_eq; rw [List.length_append] at hq_; rw [hV2, List.length_append] at hcap; omega) (show ((link - 1) + 1).toNat = (m - 1) ∧ -1 ≤ (link - 1) from by omega) (show (m - 1) ≤ 0 ∧ (m - 1) ≤ nl from by omega) (show (tree ||| 2 ^ (m - 1)) < 16384 from or_bd (N := 14) htr (by omega)) (show (unt g (grp g ((lf (m - 1)).toNat)) (grp g ((lt (m - 1)).toNat)) 6) < 262144 from unt_bd (g := g) hgg (grp_le _ _) (grp_le _ _) 6 (by decide)) (show xs2_52.length = n2_52 from g52_l) (show LsA fb2_52 xs2_52 from g52_s) (show xs2_52.Pairwise (· ≤ ·) from g52_o) (show ∀ x_ ∈ xs2_52, x_ < 16384 from g52_b)) mm_X9_hang (hstk := rfl) (hlen := rfl) (hcat := Nat.le_of_ble_eq_true rfl) (isC := [0, 1, 2, 3, 4, 5]) (isR := []) (wr := []) (hC := rfl) (hR := rfl) (hnC := rfl) (hn := rfl) (hdis := by decide) (hR1 := ⟨Nat.le_of_ble_eq_true rfl, Nat.le_of_ble_eq_true rfl⟩) (hcs := ⟨Nat.le_of_ble_eq_true rfl, Nat.le_of_ble_eq_true rfl⟩) (fun v_ w_ hp_ => ?_)
            obtain ⟨n2_111, fb2_111, xs2_111, rfl, rfl, g111_l, g111_s, g111_o, g111_p, g111_b⟩ := hp_
            replace g111_l : xs2_111.length = n2_111 := g111_l
            replace g111_s : LsA fb2_111 xs2_111 := g111_s
            replace g111_o : xs2_111.Pairwise (· ≤ ·) := g111_o
            replace g111_p : xs2_111.Perm (hg lf lt (m - 1) (tree ||| 2 ^ (m - 1)) (unt g (grp g ((lf (m - 1)).toNat)) (grp g ((lt (m - 1)).toNat)) 6) ++ xs2_52) := g111_p
            replace g111_b : ∀ x_ ∈ xs2_111, x_ < 16384 := g111_b
            show Wx _ _ _ _ _ _ _ _ _ _ _ _ _ _ _ _ 114 [(7, .int (iI ((grp g ((lt (m - 1)).toNat) : Nat) : Int))), (6, .int (iI ((grp g ((lf (m - 1)).toNat) : Nat) : Int))), (5, .int (iI (5 - ((popc tree : Nat) : Int)))), (0, .ref k), (1, .int (iI link)), (2, .int (iI (tree : Int))), (3, .int (iI (g : Int))), (4, .ref h)] [] [(k, ob 8 [.ref lk, .int (iI s0), .ref lk]), (lk, ob 2 [.ref la_, .ref lb_, .int (iI (nl : Int)), .ref lf_, .ref lt_]), (lf_, ia E 14 lf), (lt_, ia E 14 lt), (h, ob 7 [.ref hb, .ref ha, .ref hc, .int (iI (n2_111 : Int)), .int (iI sg)]), (hb, ia E 2002 fb2_111)]
            exact x_vret C hr dX9_hang_114 ⟨n2_111, fb2_111, xs2_111, rfl, rfl, (show xs2_111.length = n2_111 from g111_l), (show LsA fb2_111 xs2_111 from g111_s), (show xs2_111.Pairwise (· ≤ ·) from g111_o), (show xs2_111.Perm (hg lf lt m tree g ++ xs) from two_perm hV2 g52_p g111_p), (show ∀ x_ ∈ xs2_111, x_ < 16384 from g111_b)⟩
        ·
          exact x_vret C hr dX9_hang_43 ⟨n, fb, xs, rfl, rfl, (show xs.length = n from hlen), (show LsA fb xs from hls), (show xs.Pairwise (· ≤ ·) from hso), (show xs.Perm (hg lf lt m tree g ++ xs) from by rw [hg_0 (by omega) (by omega)]; exact List.Perm.refl _), (show ∀ x_ ∈ xs, x_ < 16384 from hbd)⟩
  ·
    refine x_aload (pc' := 15) C 5 dX9_hang_13 rfl rfl ?_
    refine x_iload_n (pc' := 16) C 3 dX9_hang_15 rfl rfl ?_
    refine x_callV (pc' := 19) (As := [.int (iI (tree : Int))]) (rest := []) (q0 := 0) C rfl rfl cv_X9_32_X8 dX9_hang_16 rfl (c_X8_insert l E h hb ha hc n tree sg fb xs (show n < 2002 from by rw [hg_5 (show popc tree = 5 by omega), List.length_singleton] at hcap; omega) (show tree < 1000000 from by omega) (show xs.length = n from hlen) (show LsA fb xs from hls) (show xs.Pairwise (· ≤ ·) from hso) (show ∀ j (h : j < xs.length), xs[j] < 1000000 from get_bd (fun x_ hx_ => Nat.lt_trans (hbd x_ hx_) (by decide)))) mm_X8_insert (hstk := rfl) (hlen := rfl) (hcat := Nat.le_of_ble_eq_true rfl) (isC := [4, 5]) (isR := [0, 1, 2, 3]) (wr := [(k, ob 8 [.ref lk, .int (iI s0), .ref lk]), (lk, ob 2 [.ref la_, .ref lb_, .int (iI (nl : Int)), .ref lf_, .ref lt_]), (lf_, ia E 14 lf), (lt_, ia E 14 lt)]) (hC := rfl) (hR := rfl) (hnC := rfl) (hn := rfl) (hdis := by decide) (hR1 := ⟨Nat.le_of_ble_eq_true rfl, Nat.le_of_ble_eq_true rfl⟩) (hcs := ⟨Nat.le_of_ble_eq_true rfl, Nat.le_of_ble_eq_true rfl⟩) (fun v_ w_ hp_ => ?_)
    obtain ⟨fb2_16, xs2_16, rfl, rfl, g16_l, g16_s, g16_o, g16_p⟩ := hp_
    replace g16_l : xs2_16.length = n + 1 := g16_l
    replace g16_s : LsA fb2_16 xs2_16 := g16_s
    replace g16_o : xs2_16.Pairwise (· ≤ ·) := g16_o
    replace g16_p : xs2_16.Perm (tree :: xs) := g16_p
    show Wx _ _ _ _ _ _ _ _ _ _ _ _ _ _ _ _ 19 [(5, .int (iI (5 - ((popc tree : Nat) : Int)))), (0, .ref k), (1, .int (iI link)), (2, .int (iI (tree : Int))), (3, .int (iI (g : Int))), (4, .ref h)] [] [(k, ob 8 [.ref lk, .int (iI s0), .ref lk]), (lk, ob 2 [.ref la_, .ref lb_, .int (iI (nl : Int)), .ref lf_, .ref lt_]), (lf_, ia E 14 lf), (lt_, ia E 14 lt), (h, ob 7 [.ref hb, .ref ha, .ref hc, .int (iI ((n + 1 : Nat) : Int)), .int (iI sg)]), (hb, ia E 2002 fb2_16)]
    exact x_vret C hr dX9_hang_19 ⟨(n + 1), fb2_16, xs2_16, rfl, rfl, (show xs2_16.length = (n + 1) from g16_l), (show LsA fb2_16 xs2_16 from g16_s), (show xs2_16.Pairwise (· ≤ ·) from g16_o), (show xs2_16.Perm (hg lf lt m tree g ++ xs) from by rw [hg_5 (show popc tree = 5 by omega)]; exact g16_p), (show ∀ x_ ∈ xs2_16, x_ < 16384 from mem_bd (L := [tree]) g16_p (one_bd htr) hbd)⟩

set_option maxHeartbeats 4000000 in
set_option maxRecDepth 100000 in
theorem c_X9_hang_2 (l : Launch) (E : EV) (k : Nat) (lk : Nat) (la_ : Nat) (lb_ : Nat) (lf_ : Nat) (lt_ : Nat) (nl : Nat) (s0 : Int) (lf : Nat → Int) (lt : Nat → Int) (h : Nat) (hb : Nat) (ha : Nat) (hc : Nat) (sg : Int) (fb : Nat → Int) (n : Nat) (m : Nat) (tree : Nat) (g : Nat) (link : Int) (xs : List Nat) (hnl : nl ≤ 14) (hlf : ∀ j_ : Nat, j_ < nl → 0 ≤ lf j_ ∧ lf j_ ≤ 5) (hlt : ∀ j_ : Nat, j_ < nl → 0 ≤ lt j_ ∧ lt j_ ≤ 5) (hcap : (hg lf lt m tree g).length + xs.length ≤ 2002) (hm : (link + 1).toNat = m ∧ -1 ≤ link) (hmL : m ≤ 2 ∧ m ≤ nl) (htr : tree < 16384) (hgg : g < 262144) (hlen : xs.length = n) (hls : LsA fb xs) (hso : xs.Pairwise (· ≤ ·)) (hbd : ∀ x_ ∈ xs, x_ < 16384) : MC l E yX9_hang cX9_hang 8 (none) ({ frames := 3, cells := 0, slots := 0, locals := 76 }) [.ref k, .int (iI link), .int (iI (tree : Int)), .int (iI (g : Int)), .ref h] [(k, ob 8 [.ref lk, .int (iI s0), .ref lk]), (lk, ob 2 [.ref la_, .ref lb_, .int (iI (nl : Int)), .ref lf_, .ref lt_]), (lf_, ia E 14 lf), (lt_, ia E 14 lt), (h, ob 7 [.ref hb, .ref ha, .ref hc, .int (iI (n : Int)), .int (iI sg)]), (hb, ia E 2002 fb)] (fun v_ w_ => ∃ (n2 : Nat) (fb2 : Nat → Int) (xs2 : List Nat), v_ = none ∧ w_ = [(k, ob 8 [.ref lk, .int (iI s0), .ref lk]), (lk, ob 2 [.ref la_, .ref lb_, .int (iI (nl : Int)), .ref lf_, .ref lt_]), (lf_, ia E 14 lf), (lt_, ia E 14 lt), (h, ob 7 [.ref hb, .ref ha, .ref hc, .int (iI (n2 : Int)), .int (iI sg)]), (hb, ia E 2002 fb2)] ∧ (xs2.length = n2) ∧ (LsA fb2 xs2) ∧ (xs2.Pairwise (· ≤ ·)) ∧ (xs2.Perm (hg lf lt m tree g ++ xs)) ∧ (∀ x_ ∈ xs2, x_ < 16384)) := by
  refine MC.of (by decide +kernel) (Nat.le_of_ble_eq_true rfl) ?_
  intro p_ e_ s_ m_ args_ below_ meth_ c_ A_ C hr hnm
  have C : Cx p_ s_ m_ args_ meth_ c_ E A_ 8 cX9_hang RX9 := C
  have hpc := popc_le tree
  show Wx _ _ _ _ _ _ _ _ _ _ _ _ _ _ _ _ 0 [(0, .ref k), (1, .int (iI link)), (2, .int (iI (tree : Int))), (3, .int (iI (g : Int))), (4, .ref h)] [] [(k, ob 8 [.ref lk, .int (iI s0), .ref lk]), (lk, ob 2 [.ref la_, .ref lb_, .int (iI (nl : Int)), .ref lf_, .ref lt_]), (lf_, ia E 14 lf), (lt_, ia E 14 lt), (h, ob 7 [.ref hb, .ref ha, .ref hc, .int (iI (n : Int)), .int (iI sg)]), (hb, ia E 2002 fb)]
  refine x_iconst (pc' := 1) C dX9_hang_0 rfl ?_
  refine x_iload_n (pc' := 2) C 2 dX9_hang_1 rfl rfl ?_
  refine x_callS (pc' := 5) (As := [.int (iI (tree : Int))]) (rest := [.int (iI 5)]) C cs_X9_26 dX9_hang_2 rfl (c_J6_bitCount_0f7a4 l E tree (show tree < 1000000 from by omega)) mm_J6_bitCount_0f7a4 (hstk := rfl) (hlen := rfl) (hcat := Nat.le_of_ble_eq_true rfl) (isC := []) (isR := [0, 1, 2, 3, 4, 5]) (wr := [(k, ob 8 [.ref lk, .int (iI s0), .ref lk]), (lk, ob 2 [.ref la_, .ref lb_, .int (iI (nl : Int)), .ref lf_, .ref lt_]), (lf_, ia E 14 lf), (lt_, ia E 14 lt), (h, ob 7 [.ref hb, .ref ha, .ref hc, .int (iI (n : Int)), .int (iI sg)]), (hb, ia E 2002 fb)]) (hC := rfl) (hR := rfl) (hnC := rfl) (hn := rfl) (hdis := by decide) (hR1 := ⟨Nat.le_of_ble_eq_true rfl, Nat.le_of_ble_eq_true rfl⟩) (hcs := ⟨Nat.le_of_ble_eq_true rfl, Nat.le_of_ble_eq_true rfl⟩) (fun v_ w_ hp_ => ?_)
  obtain ⟨rfl, rfl⟩ := hp_
  show Wx _ _ _ _ _ _ _ _ _ _ _ _ _ _ _ _ 5 [(0, .ref k), (1, .int (iI link)), (2, .int (iI (tree : Int))), (3, .int (iI (g : Int))), (4, .ref h)] [.int (iI ((popc tree : Nat) : Int)), .int (iI 5)] [(k, ob 8 [.ref lk, .int (iI s0), .ref lk]), (lk, ob 2 [.ref la_, .ref lb_, .int (iI (nl : Int)), .ref lf_, .ref lt_]), (lf_, ia E 14 lf), (lt_, ia E 14 lt), (h, ob 7 [.ref hb, .ref ha, .ref hc, .int (iI (n : Int)), .int (iI sg)]), (hb, ia E 2002 fb)]
  refine x_isub (pc' := 6) C dX9_hang_5 rfl ?_
  refine x_istore (pc' := 8) (lv' := [(5, .int (iI (5 - ((popc tree : Nat) : Int)))), (0, .ref k), (1, .int (iI link)), (2, .int (iI (tree : Int))), (3, .int (iI (g : Int))), (4, .ref h)]) C dX9_hang_6 rfl (by decide) rfl ?_
  refine x_iload (pc' := 10) C 0 dX9_hang_8 rfl rfl ?_
  refine x_if_ne (pc' := 13) (tgt := 20) C dX9_hang_10 rfl (by decide) (by omega) (fun c10 => ?_) (fun c10 => ?_)
  ·
    refine x_iload_n (pc' := 21) C 2 dX9_hang_20 rfl rfl ?_
    refine x_if_lt (pc' := 24) (tgt := 43) C dX9_hang_21 rfl (by decide) (by omega) (fun c21 => ?_) (fun c21 => ?_)
    ·
      exact x_vret C hr dX9_hang_43 ⟨n, fb, xs, rfl, rfl, (show xs.length = n from hlen), (show LsA fb xs from hls), (show xs.Pairwise (· ≤ ·) from hso), (show xs.Perm (hg lf lt m tree g ++ xs) from by rw [hg_0 (by omega) (by omega)]; exact List.Perm.refl _), (show ∀ x_ ∈ xs, x_ < 16384 from hbd)⟩
    ·
      refine x_iload_n (pc' := 25) C 2 dX9_hang_24 rfl rfl ?_
      refine x_aload_n (pc' := 26) C 1 dX9_hang_25 rfl rfl ?_
      refine x_get (pc' := 29) C dX9_hang_26 rfl ff_X9_9_8 0 rfl rfl ?_
      refine x_get (pc' := 32) C dX9_hang_29 rfl ff_X9_15_2 1 rfl rfl ?_
      refine x_icmp_ge (pc' := 35) (tgt := 43) C dX9_hang_32 rfl (by decide) (by omega) (by omega) (fun c32 => ?_) (fun c32 => ?_)
      ·
        exact absurd c32 (by omega)
      ·
        refine x_iload_n (pc' := 36) C 2 dX9_hang_35 rfl rfl ?_
        refine x_iconst (pc' := 37) C dX9_hang_36 rfl ?_
        refine x_iadd (pc' := 38) C dX9_hang_37 rfl ?_
        refine x_iload (pc' := 40) C 0 dX9_hang_38 rfl rfl ?_
        refine x_icmp_ge (pc' := 43) (tgt := 44) C dX9_hang_40 rfl (by decide) (by omega) (by omega) (fun c40 => ?_) (fun c40 => ?_)
        ·
          have hV := hg_s (lf := lf) (lt := lt) (m := m) (tree := tree) (g := g) (by omega) (by omega) (by omega)
          have hf1 := hlf (m - 1) (by omega)
          have ht1 := hlt (m - 1) (by omega)
          have hga := grp_le g (lf (m - 1)).toNat
          have hgb := grp_le g (lt (m - 1)).toNat
          refine x_aload_n (pc' := 45) C 1 dX9_hang_44 rfl rfl ?_
          refine x_iload_n (pc' := 46) C 2 dX9_hang_45 rfl rfl ?_
          refine x_iconst (pc' := 47) C dX9_hang_46 rfl ?_
          refine x_isub (pc' := 48) C dX9_hang_47 rfl ?_
          refine x_iload_n (pc' := 49) C 3 dX9_hang_48 rfl rfl ?_
          refine x_iload_n (pc' := 50) C 4 dX9_hang_49 rfl rfl ?_
          refine x_aload (pc' := 52) C 5 dX9_hang_50 rfl rfl ?_
          refine x_callV (pc' := 55) (As := [.int (iI (link - 1)), .int (iI (tree : Int)), .int (iI (g : Int)), .ref h]) (rest := []) (q0 := 0) C rfl rfl cv_X9_22_X9 dX9_hang_52 rfl (c_X9_hang_1 l E k lk la_ lb_ lf_ lt_ nl s0 lf lt h hb ha hc sg fb n (m - 1) tree g (link - 1) xs (show nl ≤ 14 from by omega) (show ∀ j_ : Nat, j_ < nl → 0 ≤ lf j_ ∧ lf j_ ≤ 5 from hlf) (show ∀ j_ : Nat, j_ < nl → 0 ≤ lt j_ ∧ lt j_ ≤ 5 from hlt) (show (hg lf lt (m - 1) tree g).length + xs.length ≤ 2002 from by rw [hV, List.length_append] at hcap; omega) (show ((link - 1) + 1).toNat = (m - 1) ∧ -1 ≤ (link - 1) from by omega) (show (m - 1) ≤ 1 ∧ (m - 1) ≤ nl from by omega) (show tree < 16384 from htr) (show g < 262144 from hgg) (show xs.length = n from hlen) (show LsA fb xs from hls) (show xs.Pairwise (· ≤ ·) from hso) (show ∀ x_ ∈ xs, x_ < 16384 from hbd)) mm_X9_hang (hstk := rfl) (hlen := rfl) (hcat := Nat.le_of_ble_eq_true rfl) (isC := [0, 1, 2, 3, 4, 5]) (isR := []) (wr := []) (hC := rfl) (hR := rfl) (hnC := rfl) (hn := rfl) (hdis := by decide) (hR1 := ⟨Nat.le_of_ble_eq_true rfl, Nat.le_of_ble_eq_true rfl⟩) (hcs := ⟨Nat.le_of_ble_eq_true rfl, Nat.le_of_ble_eq_true rfl⟩) (fun v_ w_ hp_ => ?_)
          obtain ⟨n2_52, fb2_52, xs2_52, rfl, rfl, g52_l, g52_s, g52_o, g52_p, g52_b⟩ := hp_
          replace g52_l : xs2_52.length = n2_52 := g52_l
          replace g52_s : LsA fb2_52 xs2_52 := g52_s
          replace g52_o : xs2_52.Pairwise (· ≤ ·) := g52_o
          replace g52_p : xs2_52.Perm (hg lf lt (m - 1) tree g ++ xs) := g52_p
          replace g52_b : ∀ x_ ∈ xs2_52, x_ < 16384 := g52_b
          show Wx _ _ _ _ _ _ _ _ _ _ _ _ _ _ _ _ 55 [(5, .int (iI (5 - ((popc tree : Nat) : Int)))), (0, .ref k), (1, .int (iI link)), (2, .int (iI (tree : Int))), (3, .int (iI (g : Int))), (4, .ref h)] [] [(k, ob 8 [.ref lk, .int (iI s0), .ref lk]), (lk, ob 2 [.ref la_, .ref lb_, .int (iI (nl : Int)), .ref lf_, .ref lt_]), (lf_, ia E 14 lf), (lt_, ia E 14 lt), (h, ob 7 [.ref hb, .ref ha, .ref hc, .int (iI (n2_52 : Int)), .int (iI sg)]), (hb, ia E 2002 fb2_52)]
          refine x_iload_n (pc' := 56) C 4 dX9_hang_55 rfl rfl ?_
          refine x_aload_n (pc' := 57) C 1 dX9_hang_56 rfl rfl ?_
          refine x_get (pc' := 60) C dX9_hang_57 rfl ff_X9_9_8 0 rfl rfl ?_
          refine x_get (pc' := 63) C dX9_hang_60 rfl ff_X9_38_2 1 rfl rfl ?_
          refine x_iload_n (pc' := 64) C 2 dX9_hang_63 rfl rfl ?_
          refine x_iald (pc' := 65) C (m - 1) dX9_hang_64 rfl 2 rfl (by omega) (by omega) (by omega) ?_
          refine x_top (b := .int (iI (((lf (m - 1)).toNat : Nat) : Int))) (by congr 2; omega) ?_
          refine x_callS (pc' := 68) (As := [.int (iI (g : Int)), .int (iI (((lf (m - 1)).toNat : Nat) : Int))]) (rest := []) C cs_X9_42 dX9_hang_65 rfl (c_X9_groupOf l E g ((lf (m - 1)).toNat) (show g < 1000000 from by omega) (show ((lf (m - 1)).toNat) ≤ 5 from by omega)) mm_X9_groupOf (hstk := rfl) (hlen := rfl) (hcat := Nat.le_of_ble_eq_true rfl) (isC := []) (isR := [0, 1, 2, 3, 4, 5]) (wr := [(k, ob 8 [.ref lk, .int (iI s0), .ref lk]), (lk, ob 2 [.ref la_, .ref lb_, .int (iI (nl : Int)), .ref lf_, .ref lt_]), (lf_, ia E 14 lf), (lt_, ia E 14 lt), (h, ob 7 [.ref hb, .ref ha, .ref hc, .int (iI (n2_52 : Int)), .int (iI sg)]), (hb, ia E 2002 fb2_52)]) (hC := rfl) (hR := rfl) (hnC := rfl) (hn := rfl) (hdis := by decide) (hR1 := ⟨Nat.le_of_ble_eq_true rfl, Nat.le_of_ble_eq_true rfl⟩) (hcs := ⟨Nat.le_of_ble_eq_true rfl, Nat.le_of_ble_eq_true rfl⟩) (fun v_ w_ hp_ => ?_)
          obtain ⟨rfl, rfl⟩ := hp_
          show Wx _ _ _ _ _ _ _ _ _ _ _ _ _ _ _ _ 68 [(5, .int (iI (5 - ((popc tree : Nat) : Int)))), (0, .ref k), (1, .int (iI link)), (2, .int (iI (tree : Int))), (3, .int (iI (g : Int))), (4, .ref h)] [.int (iI ((grp g ((lf (m - 1)).toNat) : Nat) : Int))] [(k, ob 8 [.ref lk, .int (iI s0), .ref lk]), (lk, ob 2 [.ref la_, .ref lb_, .int (iI (nl : Int)), .ref lf_, .ref lt_]), (lf_, ia E 14 lf), (lt_, ia E 14 lt), (h, ob 7 [.ref hb, .ref ha, .ref hc, .int (iI (n2_52 : Int)), .int (iI sg)]), (hb, ia E 2002 fb2_52)]
          refine x_istore (pc' := 70) (lv' := [(6, .int (iI ((grp g ((lf (m - 1)).toNat) : Nat) : Int))), (5, .int (iI (5 - ((popc tree : Nat) : Int)))), (0, .ref k), (1, .int (iI link)), (2, .int (iI (tree : Int))), (3, .int (iI (g : Int))), (4, .ref h)]) C dX9_hang_68 rfl (by decide) rfl ?_
          refine x_iload_n (pc' := 71) C 5 dX9_hang_70 rfl rfl ?_
          refine x_aload_n (pc' := 72) C 2 dX9_hang_71 rfl rfl ?_
          refine x_get (pc' := 75) C dX9_hang_72 rfl ff_X9_9_8 0 rfl rfl ?_
          refine x_get (pc' := 78) C dX9_hang_75 rfl ff_X9_46_2 1 rfl rfl ?_
          refine x_iload_n (pc' := 79) C 3 dX9_hang_78 rfl rfl ?_
          refine x_iald (pc' := 80) C (m - 1) dX9_hang_79 rfl 3 rfl (by omega) (by omega) (by omega) ?_
          refine x_top (b := .int (iI (((lt (m - 1)).toNat : Nat) : Int))) (by congr 2; omega) ?_
          refine x_callS (pc' := 83) (As := [.int (iI (g : Int)), .int (iI (((lt (m - 1)).toNat : Nat) : Int))]) (rest := []) C cs_X9_42 dX9_hang_80 rfl (c_X9_groupOf l E g ((lt (m - 1)).toNat) (show g < 1000000 from by omega) (show ((lt (m - 1)).toNat) ≤ 5 from by omega)) mm_X9_groupOf (hstk := rfl) (hlen := rfl) (hcat := Nat.le_of_ble_eq_true rfl) (isC := []) (isR := [0, 1, 2, 3, 4, 5]) (wr := [(k, ob 8 [.ref lk, .int (iI s0), .ref lk]), (lk, ob 2 [.ref la_, .ref lb_, .int (iI (nl : Int)), .ref lf_, .ref lt_]), (lf_, ia E 14 lf), (lt_, ia E 14 lt), (h, ob 7 [.ref hb, .ref ha, .ref hc, .int (iI (n2_52 : Int)), .int (iI sg)]), (hb, ia E 2002 fb2_52)]) (hC := rfl) (hR := rfl) (hnC := rfl) (hn := rfl) (hdis := by decide) (hR1 := ⟨Nat.le_of_ble_eq_true rfl, Nat.le_of_ble_eq_true rfl⟩) (hcs := ⟨Nat.le_of_ble_eq_true rfl, Nat.le_of_ble_eq_true rfl⟩) (fun v_ w_ hp_ => ?_)
          obtain ⟨rfl, rfl⟩ := hp_
          show Wx _ _ _ _ _ _ _ _ _ _ _ _ _ _ _ _ 83 [(6, .int (iI ((grp g ((lf (m - 1)).toNat) : Nat) : Int))), (5, .int (iI (5 - ((popc tree : Nat) : Int)))), (0, .ref k), (1, .int (iI link)), (2, .int (iI (tree : Int))), (3, .int (iI (g : Int))), (4, .ref h)] [.int (iI ((grp g ((lt (m - 1)).toNat) : Nat) : Int))] [(k, ob 8 [.ref lk, .int (iI s0), .ref lk]), (lk, ob 2 [.ref la_, .ref lb_, .int (iI (nl : Int)), .ref lf_, .ref lt_]), (lf_, ia E 14 lf), (lt_, ia E 14 lt), (h, ob 7 [.ref hb, .ref ha, .ref hc, .int (iI (n2_52 : Int)), .int (iI sg)]), (hb, ia E 2002 fb2_52)]
          refine x_istore (pc' := 85) (lv' := [(7, .int (iI ((grp g ((lt (m - 1)).toNat) : Nat) : Int))), (6, .int (iI ((grp g ((lf (m - 1)).toNat) : Nat) : Int))), (5, .int (iI (5 - ((popc tree : Nat) : Int)))), (0, .ref k), (1, .int (iI link)), (2, .int (iI (tree : Int))), (3, .int (iI (g : Int))), (4, .ref h)]) C dX9_hang_83 rfl (by decide) rfl ?_
          refine x_iload (pc' := 87) C 1 dX9_hang_85 rfl rfl ?_
          refine x_iload (pc' := 89) C 0 dX9_hang_87 rfl rfl ?_
          refine x_icmp_eq (pc' := 92) (tgt := 114) C dX9_hang_89 rfl (by decide) (by omega) (by omega) (fun c89 => ?_) (fun c89 => ?_)
          ·
            exact x_vret C hr dX9_hang_114 ⟨n2_52, fb2_52, xs2_52, rfl, rfl, (show xs2_52.length = n2_52 from g52_l), (show LsA fb2_52 xs2_52 from g52_s), (show xs2_52.Pairwise (· ≤ ·) from g52_o), (show xs2_52.Perm (hg lf lt m tree g ++ xs) from two_perm (W := []) (by rw [hV, if_pos (by omega)]) g52_p (List.Perm.refl _)), (show ∀ x_ ∈ xs2_52, x_ < 16384 from g52_b)⟩
          ·
            have hV2 := hV
            rw [if_neg (by omega)] at hV2
            refine x_aload_n (pc' := 93) C 3 dX9_hang_92 rfl rfl ?_
            refine x_iload_n (pc' := 94) C 4 dX9_hang_93 rfl rfl ?_
            refine x_iconst (pc' := 95) C dX9_hang_94 rfl ?_
            refine x_isub (pc' := 96) C dX9_hang_95 rfl ?_
            refine x_iload_n (pc' := 97) C 5 dX9_hang_96 rfl rfl ?_
            refine x_iconst (pc' := 98) C dX9_hang_97 rfl ?_
            refine x_iload_n (pc' := 99) C 4 dX9_hang_98 rfl rfl ?_
            refine x_ishl (pc' := 100) (z := (iI ((2 ^ (m - 1) : Nat) : Int))) C dX9_hang_99 rfl (by rw [show link = ((m - 1 : Nat) : Int) by omega]; exact bt_shl (by omega)) ?_
            refine x_ior (pc' := 101) (z := (iI ((tree ||| 2 ^ (m - 1) : Nat) : Int))) C dX9_hang_100 rfl (bt_or _ _) ?_
            refine x_iload_n (pc' := 102) C 6 dX9_hang_101 rfl rfl ?_
            refine x_iload (pc' := 104) C 1 dX9_hang_102 rfl rfl ?_
            refine x_iload (pc' := 106) C 0 dX9_hang_104 rfl rfl ?_
            refine x_callS (pc' := 109) (As := [.int (iI (g : Int)), .int (iI ((grp g ((lf (m - 1)).toNat) : Nat) : Int)), .int (iI ((grp g ((lt (m - 1)).toNat) : Nat) : Int))]) (rest := [.int (iI ((tree ||| 2 ^ (m - 1) : Nat) : Int)), .int (iI (link - 1)), .ref k]) C cs_X9_49 dX9_hang_106 rfl (c_X9_unite l E g (grp g ((lf (m - 1)).toNat)) (grp g ((lt (m - 1)).toNat)) (show g < 262144 from by omega) (show (grp g ((lf (m - 1)).toNat)) ≤ 7 from by omega) (show (grp g ((lt (m - 1)).toNat)) ≤ 7 from by omega)) mm_X9_unite (hstk := rfl) (hlen := rfl) (hcat := Nat.le_of_ble_eq_true rfl) (isC := []) (isR := [0, 1, 2, 3, 4, 5]) (wr := [(k, ob 8 [.ref lk, .int (iI s0), .ref lk]), (lk, ob 2 [.ref la_, .ref lb_, .int (iI (nl : Int)), .ref lf_, .ref lt_]), (lf_, ia E 14 lf), (lt_, ia E 14 lt), (h, ob 7 [.ref hb, .ref ha, .ref hc, .int (iI (n2_52 : Int)), .int (iI sg)]), (hb, ia E 2002 fb2_52)]) (hC := rfl) (hR := rfl) (hnC := rfl) (hn := rfl) (hdis := by decide) (hR1 := ⟨Nat.le_of_ble_eq_true rfl, Nat.le_of_ble_eq_true rfl⟩) (hcs := ⟨Nat.le_of_ble_eq_true rfl, Nat.le_of_ble_eq_true rfl⟩) (fun v_ w_ hp_ => ?_)
            obtain ⟨rfl, rfl⟩ := hp_
            show Wx _ _ _ _ _ _ _ _ _ _ _ _ _ _ _ _ 109 [(7, .int (iI ((grp g ((lt (m - 1)).toNat) : Nat) : Int))), (6, .int (iI ((grp g ((lf (m - 1)).toNat) : Nat) : Int))), (5, .int (iI (5 - ((popc tree : Nat) : Int)))), (0, .ref k), (1, .int (iI link)), (2, .int (iI (tree : Int))), (3, .int (iI (g : Int))), (4, .ref h)] [.int (iI ((unt g (grp g ((lf (m - 1)).toNat)) (grp g ((lt (m - 1)).toNat)) 6 : Nat) : Int)), .int (iI ((tree ||| 2 ^ (m - 1) : Nat) : Int)), .int (iI (link - 1)), .ref k] [(k, ob 8 [.ref lk, .int (iI s0), .ref lk]), (lk, ob 2 [.ref la_, .ref lb_, .int (iI (nl : Int)), .ref lf_, .ref lt_]), (lf_, ia E 14 lf), (lt_, ia E 14 lt), (h, ob 7 [.ref hb, .ref ha, .ref hc, .int (iI (n2_52 : Int)), .int (iI sg)]), (hb, ia E 2002 fb2_52)]
            refine x_aload (pc' := 111) C 7 dX9_hang_109 rfl rfl ?_
            refine x_callV (pc' := 114) (As := [.int (iI (link - 1)), .int (iI ((tree ||| 2 ^ (m - 1) : Nat) : Int)), .int (iI ((unt g (grp g ((lf (m - 1)).toNat)) (grp g ((lt (m - 1)).toNat)) 6 : Nat) : Int)), .ref h]) (rest := []) (q0 := 0) C rfl rfl cv_X9_22_X9 dX9_hang_111 rfl (c_X9_hang_1 l E k lk la_ lb_ lf_ lt_ nl s0 lf lt h hb ha hc sg fb2_52 n2_52 (m - 1) (tree ||| 2 ^ (m - 1)) (unt g (grp g ((lf (m - 1)).toNat)) (grp g ((lt (m - 1)).toNat)) 6) (link - 1) xs2_52 (show nl ≤ 14 from by omega) (show ∀ j_ : Nat, j_ < nl → 0 ≤ lf j_ ∧ lf j_ ≤ 5 from hlf) (show ∀ j_ : Nat, j_ < nl → 0 ≤ lt j_ ∧ lt j_ ≤ 5 from hlt) (show (hg lf lt (m - 1) (tree ||| 2 ^ (m - 1)) (unt g (grp g ((lf (m - 1)).toNat)) (grp g ((lt (m - 1)).toNat)) 6)).length + xs2_52.length ≤ 2002 from by have hq_ := g52_p.length_eq; rw [List.length_append] at hq_; rw [hV2, List.length_append] at hcap; omega) (show ((link - 1) + 1).toNat = (m - 1) ∧ -1 ≤ (link - 1) from by omega) (show (m - 1) ≤ 1 ∧ (m - 1) ≤ nl from by omega) (show (tree ||| 2 ^ (m - 1)) < 16384 from or_bd (N := 14) htr (by omega)) (show (unt g (grp g ((lf (m - 1)).toNat)) (grp g ((lt (m - 1)).toNat)) 6) < 262144 from unt_bd (g := g) hgg (grp_le _ _) (grp_le _ _) 6 (by decide)) (show xs2_52.length = n2_52 from g52_l) (show LsA fb2_52 xs2_52 from g52_s) (show xs2_52.Pairwise (· ≤ ·) from g52_o) (show ∀ x_ ∈ xs2_52, x_ < 16384 from g52_b)) mm_X9_hang (hstk := rfl) (hlen := rfl) (hcat := Nat.le_of_ble_eq_true rfl) (isC := [0, 1, 2, 3, 4, 5]) (isR := []) (wr := []) (hC := rfl) (hR := rfl) (hnC := rfl) (hn := rfl) (hdis := by decide) (hR1 := ⟨Nat.le_of_ble_eq_true rfl, Nat.le_of_ble_eq_true rfl⟩) (hcs := ⟨Nat.le_of_ble_eq_true rfl, Nat.le_of_ble_eq_true rfl⟩) (fun v_ w_ hp_ => ?_)
            obtain ⟨n2_111, fb2_111, xs2_111, rfl, rfl, g111_l, g111_s, g111_o, g111_p, g111_b⟩ := hp_
            replace g111_l : xs2_111.length = n2_111 := g111_l
            replace g111_s : LsA fb2_111 xs2_111 := g111_s
            replace g111_o : xs2_111.Pairwise (· ≤ ·) := g111_o
            replace g111_p : xs2_111.Perm (hg lf lt (m - 1) (tree ||| 2 ^ (m - 1)) (unt g (grp g ((lf (m - 1)).toNat)) (grp g ((lt (m - 1)).toNat)) 6) ++ xs2_52) := g111_p
            replace g111_b : ∀ x_ ∈ xs2_111, x_ < 16384 := g111_b
            show Wx _ _ _ _ _ _ _ _ _ _ _ _ _ _ _ _ 114 [(7, .int (iI ((grp g ((lt (m - 1)).toNat) : Nat) : Int))), (6, .int (iI ((grp g ((lf (m - 1)).toNat) : Nat) : Int))), (5, .int (iI (5 - ((popc tree : Nat) : Int)))), (0, .ref k), (1, .int (iI link)), (2, .int (iI (tree : Int))), (3, .int (iI (g : Int))), (4, .ref h)] [] [(k, ob 8 [.ref lk, .int (iI s0), .ref lk]), (lk, ob 2 [.ref la_, .ref lb_, .int (iI (nl : Int)), .ref lf_, .ref lt_]), (lf_, ia E 14 lf), (lt_, ia E 14 lt), (h, ob 7 [.ref hb, .ref ha, .ref hc, .int (iI (n2_111 : Int)), .int (iI sg)]), (hb, ia E 2002 fb2_111)]
            exact x_vret C hr dX9_hang_114 ⟨n2_111, fb2_111, xs2_111, rfl, rfl, (show xs2_111.length = n2_111 from g111_l), (show LsA fb2_111 xs2_111 from g111_s), (show xs2_111.Pairwise (· ≤ ·) from g111_o), (show xs2_111.Perm (hg lf lt m tree g ++ xs) from two_perm hV2 g52_p g111_p), (show ∀ x_ ∈ xs2_111, x_ < 16384 from g111_b)⟩
        ·
          exact x_vret C hr dX9_hang_43 ⟨n, fb, xs, rfl, rfl, (show xs.length = n from hlen), (show LsA fb xs from hls), (show xs.Pairwise (· ≤ ·) from hso), (show xs.Perm (hg lf lt m tree g ++ xs) from by rw [hg_0 (by omega) (by omega)]; exact List.Perm.refl _), (show ∀ x_ ∈ xs, x_ < 16384 from hbd)⟩
  ·
    refine x_aload (pc' := 15) C 5 dX9_hang_13 rfl rfl ?_
    refine x_iload_n (pc' := 16) C 3 dX9_hang_15 rfl rfl ?_
    refine x_callV (pc' := 19) (As := [.int (iI (tree : Int))]) (rest := []) (q0 := 0) C rfl rfl cv_X9_32_X8 dX9_hang_16 rfl (c_X8_insert l E h hb ha hc n tree sg fb xs (show n < 2002 from by rw [hg_5 (show popc tree = 5 by omega), List.length_singleton] at hcap; omega) (show tree < 1000000 from by omega) (show xs.length = n from hlen) (show LsA fb xs from hls) (show xs.Pairwise (· ≤ ·) from hso) (show ∀ j (h : j < xs.length), xs[j] < 1000000 from get_bd (fun x_ hx_ => Nat.lt_trans (hbd x_ hx_) (by decide)))) mm_X8_insert (hstk := rfl) (hlen := rfl) (hcat := Nat.le_of_ble_eq_true rfl) (isC := [4, 5]) (isR := [0, 1, 2, 3]) (wr := [(k, ob 8 [.ref lk, .int (iI s0), .ref lk]), (lk, ob 2 [.ref la_, .ref lb_, .int (iI (nl : Int)), .ref lf_, .ref lt_]), (lf_, ia E 14 lf), (lt_, ia E 14 lt)]) (hC := rfl) (hR := rfl) (hnC := rfl) (hn := rfl) (hdis := by decide) (hR1 := ⟨Nat.le_of_ble_eq_true rfl, Nat.le_of_ble_eq_true rfl⟩) (hcs := ⟨Nat.le_of_ble_eq_true rfl, Nat.le_of_ble_eq_true rfl⟩) (fun v_ w_ hp_ => ?_)
    obtain ⟨fb2_16, xs2_16, rfl, rfl, g16_l, g16_s, g16_o, g16_p⟩ := hp_
    replace g16_l : xs2_16.length = n + 1 := g16_l
    replace g16_s : LsA fb2_16 xs2_16 := g16_s
    replace g16_o : xs2_16.Pairwise (· ≤ ·) := g16_o
    replace g16_p : xs2_16.Perm (tree :: xs) := g16_p
    show Wx _ _ _ _ _ _ _ _ _ _ _ _ _ _ _ _ 19 [(5, .int (iI (5 - ((popc tree : Nat) : Int)))), (0, .ref k), (1, .int (iI link)), (2, .int (iI (tree : Int))), (3, .int (iI (g : Int))), (4, .ref h)] [] [(k, ob 8 [.ref lk, .int (iI s0), .ref lk]), (lk, ob 2 [.ref la_, .ref lb_, .int (iI (nl : Int)), .ref lf_, .ref lt_]), (lf_, ia E 14 lf), (lt_, ia E 14 lt), (h, ob 7 [.ref hb, .ref ha, .ref hc, .int (iI ((n + 1 : Nat) : Int)), .int (iI sg)]), (hb, ia E 2002 fb2_16)]
    exact x_vret C hr dX9_hang_19 ⟨(n + 1), fb2_16, xs2_16, rfl, rfl, (show xs2_16.length = (n + 1) from g16_l), (show LsA fb2_16 xs2_16 from g16_s), (show xs2_16.Pairwise (· ≤ ·) from g16_o), (show xs2_16.Perm (hg lf lt m tree g ++ xs) from by rw [hg_5 (show popc tree = 5 by omega)]; exact g16_p), (show ∀ x_ ∈ xs2_16, x_ < 16384 from mem_bd (L := [tree]) g16_p (one_bd htr) hbd)⟩

set_option maxHeartbeats 4000000 in
set_option maxRecDepth 100000 in
theorem c_X9_hang_3 (l : Launch) (E : EV) (k : Nat) (lk : Nat) (la_ : Nat) (lb_ : Nat) (lf_ : Nat) (lt_ : Nat) (nl : Nat) (s0 : Int) (lf : Nat → Int) (lt : Nat → Int) (h : Nat) (hb : Nat) (ha : Nat) (hc : Nat) (sg : Int) (fb : Nat → Int) (n : Nat) (m : Nat) (tree : Nat) (g : Nat) (link : Int) (xs : List Nat) (hnl : nl ≤ 14) (hlf : ∀ j_ : Nat, j_ < nl → 0 ≤ lf j_ ∧ lf j_ ≤ 5) (hlt : ∀ j_ : Nat, j_ < nl → 0 ≤ lt j_ ∧ lt j_ ≤ 5) (hcap : (hg lf lt m tree g).length + xs.length ≤ 2002) (hm : (link + 1).toNat = m ∧ -1 ≤ link) (hmL : m ≤ 3 ∧ m ≤ nl) (htr : tree < 16384) (hgg : g < 262144) (hlen : xs.length = n) (hls : LsA fb xs) (hso : xs.Pairwise (· ≤ ·)) (hbd : ∀ x_ ∈ xs, x_ < 16384) : MC l E yX9_hang cX9_hang 8 (none) ({ frames := 4, cells := 0, slots := 0, locals := 103 }) [.ref k, .int (iI link), .int (iI (tree : Int)), .int (iI (g : Int)), .ref h] [(k, ob 8 [.ref lk, .int (iI s0), .ref lk]), (lk, ob 2 [.ref la_, .ref lb_, .int (iI (nl : Int)), .ref lf_, .ref lt_]), (lf_, ia E 14 lf), (lt_, ia E 14 lt), (h, ob 7 [.ref hb, .ref ha, .ref hc, .int (iI (n : Int)), .int (iI sg)]), (hb, ia E 2002 fb)] (fun v_ w_ => ∃ (n2 : Nat) (fb2 : Nat → Int) (xs2 : List Nat), v_ = none ∧ w_ = [(k, ob 8 [.ref lk, .int (iI s0), .ref lk]), (lk, ob 2 [.ref la_, .ref lb_, .int (iI (nl : Int)), .ref lf_, .ref lt_]), (lf_, ia E 14 lf), (lt_, ia E 14 lt), (h, ob 7 [.ref hb, .ref ha, .ref hc, .int (iI (n2 : Int)), .int (iI sg)]), (hb, ia E 2002 fb2)] ∧ (xs2.length = n2) ∧ (LsA fb2 xs2) ∧ (xs2.Pairwise (· ≤ ·)) ∧ (xs2.Perm (hg lf lt m tree g ++ xs)) ∧ (∀ x_ ∈ xs2, x_ < 16384)) := by
  refine MC.of (by decide +kernel) (Nat.le_of_ble_eq_true rfl) ?_
  intro p_ e_ s_ m_ args_ below_ meth_ c_ A_ C hr hnm
  have C : Cx p_ s_ m_ args_ meth_ c_ E A_ 8 cX9_hang RX9 := C
  have hpc := popc_le tree
  show Wx _ _ _ _ _ _ _ _ _ _ _ _ _ _ _ _ 0 [(0, .ref k), (1, .int (iI link)), (2, .int (iI (tree : Int))), (3, .int (iI (g : Int))), (4, .ref h)] [] [(k, ob 8 [.ref lk, .int (iI s0), .ref lk]), (lk, ob 2 [.ref la_, .ref lb_, .int (iI (nl : Int)), .ref lf_, .ref lt_]), (lf_, ia E 14 lf), (lt_, ia E 14 lt), (h, ob 7 [.ref hb, .ref ha, .ref hc, .int (iI (n : Int)), .int (iI sg)]), (hb, ia E 2002 fb)]
  refine x_iconst (pc' := 1) C dX9_hang_0 rfl ?_
  refine x_iload_n (pc' := 2) C 2 dX9_hang_1 rfl rfl ?_
  refine x_callS (pc' := 5) (As := [.int (iI (tree : Int))]) (rest := [.int (iI 5)]) C cs_X9_26 dX9_hang_2 rfl (c_J6_bitCount_0f7a4 l E tree (show tree < 1000000 from by omega)) mm_J6_bitCount_0f7a4 (hstk := rfl) (hlen := rfl) (hcat := Nat.le_of_ble_eq_true rfl) (isC := []) (isR := [0, 1, 2, 3, 4, 5]) (wr := [(k, ob 8 [.ref lk, .int (iI s0), .ref lk]), (lk, ob 2 [.ref la_, .ref lb_, .int (iI (nl : Int)), .ref lf_, .ref lt_]), (lf_, ia E 14 lf), (lt_, ia E 14 lt), (h, ob 7 [.ref hb, .ref ha, .ref hc, .int (iI (n : Int)), .int (iI sg)]), (hb, ia E 2002 fb)]) (hC := rfl) (hR := rfl) (hnC := rfl) (hn := rfl) (hdis := by decide) (hR1 := ⟨Nat.le_of_ble_eq_true rfl, Nat.le_of_ble_eq_true rfl⟩) (hcs := ⟨Nat.le_of_ble_eq_true rfl, Nat.le_of_ble_eq_true rfl⟩) (fun v_ w_ hp_ => ?_)
  obtain ⟨rfl, rfl⟩ := hp_
  show Wx _ _ _ _ _ _ _ _ _ _ _ _ _ _ _ _ 5 [(0, .ref k), (1, .int (iI link)), (2, .int (iI (tree : Int))), (3, .int (iI (g : Int))), (4, .ref h)] [.int (iI ((popc tree : Nat) : Int)), .int (iI 5)] [(k, ob 8 [.ref lk, .int (iI s0), .ref lk]), (lk, ob 2 [.ref la_, .ref lb_, .int (iI (nl : Int)), .ref lf_, .ref lt_]), (lf_, ia E 14 lf), (lt_, ia E 14 lt), (h, ob 7 [.ref hb, .ref ha, .ref hc, .int (iI (n : Int)), .int (iI sg)]), (hb, ia E 2002 fb)]
  refine x_isub (pc' := 6) C dX9_hang_5 rfl ?_
  refine x_istore (pc' := 8) (lv' := [(5, .int (iI (5 - ((popc tree : Nat) : Int)))), (0, .ref k), (1, .int (iI link)), (2, .int (iI (tree : Int))), (3, .int (iI (g : Int))), (4, .ref h)]) C dX9_hang_6 rfl (by decide) rfl ?_
  refine x_iload (pc' := 10) C 0 dX9_hang_8 rfl rfl ?_
  refine x_if_ne (pc' := 13) (tgt := 20) C dX9_hang_10 rfl (by decide) (by omega) (fun c10 => ?_) (fun c10 => ?_)
  ·
    refine x_iload_n (pc' := 21) C 2 dX9_hang_20 rfl rfl ?_
    refine x_if_lt (pc' := 24) (tgt := 43) C dX9_hang_21 rfl (by decide) (by omega) (fun c21 => ?_) (fun c21 => ?_)
    ·
      exact x_vret C hr dX9_hang_43 ⟨n, fb, xs, rfl, rfl, (show xs.length = n from hlen), (show LsA fb xs from hls), (show xs.Pairwise (· ≤ ·) from hso), (show xs.Perm (hg lf lt m tree g ++ xs) from by rw [hg_0 (by omega) (by omega)]; exact List.Perm.refl _), (show ∀ x_ ∈ xs, x_ < 16384 from hbd)⟩
    ·
      refine x_iload_n (pc' := 25) C 2 dX9_hang_24 rfl rfl ?_
      refine x_aload_n (pc' := 26) C 1 dX9_hang_25 rfl rfl ?_
      refine x_get (pc' := 29) C dX9_hang_26 rfl ff_X9_9_8 0 rfl rfl ?_
      refine x_get (pc' := 32) C dX9_hang_29 rfl ff_X9_15_2 1 rfl rfl ?_
      refine x_icmp_ge (pc' := 35) (tgt := 43) C dX9_hang_32 rfl (by decide) (by omega) (by omega) (fun c32 => ?_) (fun c32 => ?_)
      ·
        exact absurd c32 (by omega)
      ·
        refine x_iload_n (pc' := 36) C 2 dX9_hang_35 rfl rfl ?_
        refine x_iconst (pc' := 37) C dX9_hang_36 rfl ?_
        refine x_iadd (pc' := 38) C dX9_hang_37 rfl ?_
        refine x_iload (pc' := 40) C 0 dX9_hang_38 rfl rfl ?_
        refine x_icmp_ge (pc' := 43) (tgt := 44) C dX9_hang_40 rfl (by decide) (by omega) (by omega) (fun c40 => ?_) (fun c40 => ?_)
        ·
          have hV := hg_s (lf := lf) (lt := lt) (m := m) (tree := tree) (g := g) (by omega) (by omega) (by omega)
          have hf1 := hlf (m - 1) (by omega)
          have ht1 := hlt (m - 1) (by omega)
          have hga := grp_le g (lf (m - 1)).toNat
          have hgb := grp_le g (lt (m - 1)).toNat
          refine x_aload_n (pc' := 45) C 1 dX9_hang_44 rfl rfl ?_
          refine x_iload_n (pc' := 46) C 2 dX9_hang_45 rfl rfl ?_
          refine x_iconst (pc' := 47) C dX9_hang_46 rfl ?_
          refine x_isub (pc' := 48) C dX9_hang_47 rfl ?_
          refine x_iload_n (pc' := 49) C 3 dX9_hang_48 rfl rfl ?_
          refine x_iload_n (pc' := 50) C 4 dX9_hang_49 rfl rfl ?_
          refine x_aload (pc' := 52) C 5 dX9_hang_50 rfl rfl ?_
          refine x_callV (pc' := 55) (As := [.int (iI (link - 1)), .int (iI (tree : Int)), .int (iI (g : Int)), .ref h]) (rest := []) (q0 := 0) C rfl rfl cv_X9_22_X9 dX9_hang_52 rfl (c_X9_hang_2 l E k lk la_ lb_ lf_ lt_ nl s0 lf lt h hb ha hc sg fb n (m - 1) tree g (link - 1) xs (show nl ≤ 14 from by omega) (show ∀ j_ : Nat, j_ < nl → 0 ≤ lf j_ ∧ lf j_ ≤ 5 from hlf) (show ∀ j_ : Nat, j_ < nl → 0 ≤ lt j_ ∧ lt j_ ≤ 5 from hlt) (show (hg lf lt (m - 1) tree g).length + xs.length ≤ 2002 from by rw [hV, List.length_append] at hcap; omega) (show ((link - 1) + 1).toNat = (m - 1) ∧ -1 ≤ (link - 1) from by omega) (show (m - 1) ≤ 2 ∧ (m - 1) ≤ nl from by omega) (show tree < 16384 from htr) (show g < 262144 from hgg) (show xs.length = n from hlen) (show LsA fb xs from hls) (show xs.Pairwise (· ≤ ·) from hso) (show ∀ x_ ∈ xs, x_ < 16384 from hbd)) mm_X9_hang (hstk := rfl) (hlen := rfl) (hcat := Nat.le_of_ble_eq_true rfl) (isC := [0, 1, 2, 3, 4, 5]) (isR := []) (wr := []) (hC := rfl) (hR := rfl) (hnC := rfl) (hn := rfl) (hdis := by decide) (hR1 := ⟨Nat.le_of_ble_eq_true rfl, Nat.le_of_ble_eq_true rfl⟩) (hcs := ⟨Nat.le_of_ble_eq_true rfl, Nat.le_of_ble_eq_true rfl⟩) (fun v_ w_ hp_ => ?_)
          obtain ⟨n2_52, fb2_52, xs2_52, rfl, rfl, g52_l, g52_s, g52_o, g52_p, g52_b⟩ := hp_
          replace g52_l : xs2_52.length = n2_52 := g52_l
          replace g52_s : LsA fb2_52 xs2_52 := g52_s
          replace g52_o : xs2_52.Pairwise (· ≤ ·) := g52_o
          replace g52_p : xs2_52.Perm (hg lf lt (m - 1) tree g ++ xs) := g52_p
          replace g52_b : ∀ x_ ∈ xs2_52, x_ < 16384 := g52_b
          show Wx _ _ _ _ _ _ _ _ _ _ _ _ _ _ _ _ 55 [(5, .int (iI (5 - ((popc tree : Nat) : Int)))), (0, .ref k), (1, .int (iI link)), (2, .int (iI (tree : Int))), (3, .int (iI (g : Int))), (4, .ref h)] [] [(k, ob 8 [.ref lk, .int (iI s0), .ref lk]), (lk, ob 2 [.ref la_, .ref lb_, .int (iI (nl : Int)), .ref lf_, .ref lt_]), (lf_, ia E 14 lf), (lt_, ia E 14 lt), (h, ob 7 [.ref hb, .ref ha, .ref hc, .int (iI (n2_52 : Int)), .int (iI sg)]), (hb, ia E 2002 fb2_52)]
          refine x_iload_n (pc' := 56) C 4 dX9_hang_55 rfl rfl ?_
          refine x_aload_n (pc' := 57) C 1 dX9_hang_56 rfl rfl ?_
          refine x_get (pc' := 60) C dX9_hang_57 rfl ff_X9_9_8 0 rfl rfl ?_
          refine x_get (pc' := 63) C dX9_hang_60 rfl ff_X9_38_2 1 rfl rfl ?_
          refine x_iload_n (pc' := 64) C 2 dX9_hang_63 rfl rfl ?_
          refine x_iald (pc' := 65) C (m - 1) dX9_hang_64 rfl 2 rfl (by omega) (by omega) (by omega) ?_
          refine x_top (b := .int (iI (((lf (m - 1)).toNat : Nat) : Int))) (by congr 2; omega) ?_
          refine x_callS (pc' := 68) (As := [.int (iI (g : Int)), .int (iI (((lf (m - 1)).toNat : Nat) : Int))]) (rest := []) C cs_X9_42 dX9_hang_65 rfl (c_X9_groupOf l E g ((lf (m - 1)).toNat) (show g < 1000000 from by omega) (show ((lf (m - 1)).toNat) ≤ 5 from by omega)) mm_X9_groupOf (hstk := rfl) (hlen := rfl) (hcat := Nat.le_of_ble_eq_true rfl) (isC := []) (isR := [0, 1, 2, 3, 4, 5]) (wr := [(k, ob 8 [.ref lk, .int (iI s0), .ref lk]), (lk, ob 2 [.ref la_, .ref lb_, .int (iI (nl : Int)), .ref lf_, .ref lt_]), (lf_, ia E 14 lf), (lt_, ia E 14 lt), (h, ob 7 [.ref hb, .ref ha, .ref hc, .int (iI (n2_52 : Int)), .int (iI sg)]), (hb, ia E 2002 fb2_52)]) (hC := rfl) (hR := rfl) (hnC := rfl) (hn := rfl) (hdis := by decide) (hR1 := ⟨Nat.le_of_ble_eq_true rfl, Nat.le_of_ble_eq_true rfl⟩) (hcs := ⟨Nat.le_of_ble_eq_true rfl, Nat.le_of_ble_eq_true rfl⟩) (fun v_ w_ hp_ => ?_)
          obtain ⟨rfl, rfl⟩ := hp_
          show Wx _ _ _ _ _ _ _ _ _ _ _ _ _ _ _ _ 68 [(5, .int (iI (5 - ((popc tree : Nat) : Int)))), (0, .ref k), (1, .int (iI link)), (2, .int (iI (tree : Int))), (3, .int (iI (g : Int))), (4, .ref h)] [.int (iI ((grp g ((lf (m - 1)).toNat) : Nat) : Int))] [(k, ob 8 [.ref lk, .int (iI s0), .ref lk]), (lk, ob 2 [.ref la_, .ref lb_, .int (iI (nl : Int)), .ref lf_, .ref lt_]), (lf_, ia E 14 lf), (lt_, ia E 14 lt), (h, ob 7 [.ref hb, .ref ha, .ref hc, .int (iI (n2_52 : Int)), .int (iI sg)]), (hb, ia E 2002 fb2_52)]
          refine x_istore (pc' := 70) (lv' := [(6, .int (iI ((grp g ((lf (m - 1)).toNat) : Nat) : Int))), (5, .int (iI (5 - ((popc tree : Nat) : Int)))), (0, .ref k), (1, .int (iI link)), (2, .int (iI (tree : Int))), (3, .int (iI (g : Int))), (4, .ref h)]) C dX9_hang_68 rfl (by decide) rfl ?_
          refine x_iload_n (pc' := 71) C 5 dX9_hang_70 rfl rfl ?_
          refine x_aload_n (pc' := 72) C 2 dX9_hang_71 rfl rfl ?_
          refine x_get (pc' := 75) C dX9_hang_72 rfl ff_X9_9_8 0 rfl rfl ?_
          refine x_get (pc' := 78) C dX9_hang_75 rfl ff_X9_46_2 1 rfl rfl ?_
          refine x_iload_n (pc' := 79) C 3 dX9_hang_78 rfl rfl ?_
          refine x_iald (pc' := 80) C (m - 1) dX9_hang_79 rfl 3 rfl (by omega) (by omega) (by omega) ?_
          refine x_top (b := .int (iI (((lt (m - 1)).toNat : Nat) : Int))) (by congr 2; omega) ?_
          refine x_callS (pc' := 83) (As := [.int (iI (g : Int)), .int (iI (((lt (m - 1)).toNat : Nat) : Int))]) (rest := []) C cs_X9_42 dX9_hang_80 rfl (c_X9_groupOf l E g ((lt (m - 1)).toNat) (show g < 1000000 from by omega) (show ((lt (m - 1)).toNat) ≤ 5 from by omega)) mm_X9_groupOf (hstk := rfl) (hlen := rfl) (hcat := Nat.le_of_ble_eq_true rfl) (isC := []) (isR := [0, 1, 2, 3, 4, 5]) (wr := [(k, ob 8 [.ref lk, .int (iI s0), .ref lk]), (lk, ob 2 [.ref la_, .ref lb_, .int (iI (nl : Int)), .ref lf_, .ref lt_]), (lf_, ia E 14 lf), (lt_, ia E 14 lt), (h, ob 7 [.ref hb, .ref ha, .ref hc, .int (iI (n2_52 : Int)), .int (iI sg)]), (hb, ia E 2002 fb2_52)]) (hC := rfl) (hR := rfl) (hnC := rfl) (hn := rfl) (hdis := by decide) (hR1 := ⟨Nat.le_of_ble_eq_true rfl, Nat.le_of_ble_eq_true rfl⟩) (hcs := ⟨Nat.le_of_ble_eq_true rfl, Nat.le_of_ble_eq_true rfl⟩) (fun v_ w_ hp_ => ?_)
          obtain ⟨rfl, rfl⟩ := hp_
          show Wx _ _ _ _ _ _ _ _ _ _ _ _ _ _ _ _ 83 [(6, .int (iI ((grp g ((lf (m - 1)).toNat) : Nat) : Int))), (5, .int (iI (5 - ((popc tree : Nat) : Int)))), (0, .ref k), (1, .int (iI link)), (2, .int (iI (tree : Int))), (3, .int (iI (g : Int))), (4, .ref h)] [.int (iI ((grp g ((lt (m - 1)).toNat) : Nat) : Int))] [(k, ob 8 [.ref lk, .int (iI s0), .ref lk]), (lk, ob 2 [.ref la_, .ref lb_, .int (iI (nl : Int)), .ref lf_, .ref lt_]), (lf_, ia E 14 lf), (lt_, ia E 14 lt), (h, ob 7 [.ref hb, .ref ha, .ref hc, .int (iI (n2_52 : Int)), .int (iI sg)]), (hb, ia E 2002 fb2_52)]
          refine x_istore (pc' := 85) (lv' := [(7, .int (iI ((grp g ((lt (m - 1)).toNat) : Nat) : Int))), (6, .int (iI ((grp g ((lf (m - 1)).toNat) : Nat) : Int))), (5, .int (iI (5 - ((popc tree : Nat) : Int)))), (0, .ref k), (1, .int (iI link)), (2, .int (iI (tree : Int))), (3, .int (iI (g : Int))), (4, .ref h)]) C dX9_hang_83 rfl (by decide) rfl ?_
          refine x_iload (pc' := 87) C 1 dX9_hang_85 rfl rfl ?_
          refine x_iload (pc' := 89) C 0 dX9_hang_87 rfl rfl ?_
          refine x_icmp_eq (pc' := 92) (tgt := 114) C dX9_hang_89 rfl (by decide) (by omega) (by omega) (fun c89 => ?_) (fun c89 => ?_)
          ·
            exact x_vret C hr dX9_hang_114 ⟨n2_52, fb2_52, xs2_52, rfl, rfl, (show xs2_52.length = n2_52 from g52_l), (show LsA fb2_52 xs2_52 from g52_s), (show xs2_52.Pairwise (· ≤ ·) from g52_o), (show xs2_52.Perm (hg lf lt m tree g ++ xs) from two_perm (W := []) (by rw [hV, if_pos (by omega)]) g52_p (List.Perm.refl _)), (show ∀ x_ ∈ xs2_52, x_ < 16384 from g52_b)⟩
          ·
            have hV2 := hV
            rw [if_neg (by omega)] at hV2
            refine x_aload_n (pc' := 93) C 3 dX9_hang_92 rfl rfl ?_
            refine x_iload_n (pc' := 94) C 4 dX9_hang_93 rfl rfl ?_
            refine x_iconst (pc' := 95) C dX9_hang_94 rfl ?_
            refine x_isub (pc' := 96) C dX9_hang_95 rfl ?_
            refine x_iload_n (pc' := 97) C 5 dX9_hang_96 rfl rfl ?_
            refine x_iconst (pc' := 98) C dX9_hang_97 rfl ?_
            refine x_iload_n (pc' := 99) C 4 dX9_hang_98 rfl rfl ?_
            refine x_ishl (pc' := 100) (z := (iI ((2 ^ (m - 1) : Nat) : Int))) C dX9_hang_99 rfl (by rw [show link = ((m - 1 : Nat) : Int) by omega]; exact bt_shl (by omega)) ?_
            refine x_ior (pc' := 101) (z := (iI ((tree ||| 2 ^ (m - 1) : Nat) : Int))) C dX9_hang_100 rfl (bt_or _ _) ?_
            refine x_iload_n (pc' := 102) C 6 dX9_hang_101 rfl rfl ?_
            refine x_iload (pc' := 104) C 1 dX9_hang_102 rfl rfl ?_
            refine x_iload (pc' := 106) C 0 dX9_hang_104 rfl rfl ?_
            refine x_callS (pc' := 109) (As := [.int (iI (g : Int)), .int (iI ((grp g ((lf (m - 1)).toNat) : Nat) : Int)), .int (iI ((grp g ((lt (m - 1)).toNat) : Nat) : Int))]) (rest := [.int (iI ((tree ||| 2 ^ (m - 1) : Nat) : Int)), .int (iI (link - 1)), .ref k]) C cs_X9_49 dX9_hang_106 rfl (c_X9_unite l E g (grp g ((lf (m - 1)).toNat)) (grp g ((lt (m - 1)).toNat)) (show g < 262144 from by omega) (show (grp g ((lf (m - 1)).toNat)) ≤ 7 from by omega) (show (grp g ((lt (m - 1)).toNat)) ≤ 7 from by omega)) mm_X9_unite (hstk := rfl) (hlen := rfl) (hcat := Nat.le_of_ble_eq_true rfl) (isC := []) (isR := [0, 1, 2, 3, 4, 5]) (wr := [(k, ob 8 [.ref lk, .int (iI s0), .ref lk]), (lk, ob 2 [.ref la_, .ref lb_, .int (iI (nl : Int)), .ref lf_, .ref lt_]), (lf_, ia E 14 lf), (lt_, ia E 14 lt), (h, ob 7 [.ref hb, .ref ha, .ref hc, .int (iI (n2_52 : Int)), .int (iI sg)]), (hb, ia E 2002 fb2_52)]) (hC := rfl) (hR := rfl) (hnC := rfl) (hn := rfl) (hdis := by decide) (hR1 := ⟨Nat.le_of_ble_eq_true rfl, Nat.le_of_ble_eq_true rfl⟩) (hcs := ⟨Nat.le_of_ble_eq_true rfl, Nat.le_of_ble_eq_true rfl⟩) (fun v_ w_ hp_ => ?_)
            obtain ⟨rfl, rfl⟩ := hp_
            show Wx _ _ _ _ _ _ _ _ _ _ _ _ _ _ _ _ 109 [(7, .int (iI ((grp g ((lt (m - 1)).toNat) : Nat) : Int))), (6, .int (iI ((grp g ((lf (m - 1)).toNat) : Nat) : Int))), (5, .int (iI (5 - ((popc tree : Nat) : Int)))), (0, .ref k), (1, .int (iI link)), (2, .int (iI (tree : Int))), (3, .int (iI (g : Int))), (4, .ref h)] [.int (iI ((unt g (grp g ((lf (m - 1)).toNat)) (grp g ((lt (m - 1)).toNat)) 6 : Nat) : Int)), .int (iI ((tree ||| 2 ^ (m - 1) : Nat) : Int)), .int (iI (link - 1)), .ref k] [(k, ob 8 [.ref lk, .int (iI s0), .ref lk]), (lk, ob 2 [.ref la_, .ref lb_, .int (iI (nl : Int)), .ref lf_, .ref lt_]), (lf_, ia E 14 lf), (lt_, ia E 14 lt), (h, ob 7 [.ref hb, .ref ha, .ref hc, .int (iI (n2_52 : Int)), .int (iI sg)]), (hb, ia E 2002 fb2_52)]
            refine x_aload (pc' := 111) C 7 dX9_hang_109 rfl rfl ?_
            refine x_callV (pc' := 114) (As := [.int (iI (link - 1)), .int (iI ((tree ||| 2 ^ (m - 1) : Nat) : Int)), .int (iI ((unt g (grp g ((lf (m - 1)).toNat)) (grp g ((lt (m - 1)).toNat)) 6 : Nat) : Int)), .ref h]) (rest := []) (q0 := 0) C rfl rfl cv_X9_22_X9 dX9_hang_111 rfl (c_X9_hang_2 l E k lk la_ lb_ lf_ lt_ nl s0 lf lt h hb ha hc sg fb2_52 n2_52 (m - 1) (tree ||| 2 ^ (m - 1)) (unt g (grp g ((lf (m - 1)).toNat)) (grp g ((lt (m - 1)).toNat)) 6) (link - 1) xs2_52 (show nl ≤ 14 from by omega) (show ∀ j_ : Nat, j_ < nl → 0 ≤ lf j_ ∧ lf j_ ≤ 5 from hlf) (show ∀ j_ : Nat, j_ < nl → 0 ≤ lt j_ ∧ lt j_ ≤ 5 from hlt) (show (hg lf lt (m - 1) (tree ||| 2 ^ (m - 1)) (unt g (grp g ((lf (m - 1)).toNat)) (grp g ((lt (m - 1)).toNat)) 6)).length + xs2_52.length ≤ 2002 from by have hq_ := g52_p.length_eq; rw [List.length_append] at hq_; rw [hV2, List.length_append] at hcap; omega) (show ((link - 1) + 1).toNat = (m - 1) ∧ -1 ≤ (link - 1) from by omega) (show (m - 1) ≤ 2 ∧ (m - 1) ≤ nl from by omega) (show (tree ||| 2 ^ (m - 1)) < 16384 from or_bd (N := 14) htr (by omega)) (show (unt g (grp g ((lf (m - 1)).toNat)) (grp g ((lt (m - 1)).toNat)) 6) < 262144 from unt_bd (g := g) hgg (grp_le _ _) (grp_le _ _) 6 (by decide)) (show xs2_52.length = n2_52 from g52_l) (show LsA fb2_52 xs2_52 from g52_s) (show xs2_52.Pairwise (· ≤ ·) from g52_o) (show ∀ x_ ∈ xs2_52, x_ < 16384 from g52_b)) mm_X9_hang (hstk := rfl) (hlen := rfl) (hcat := Nat.le_of_ble_eq_true rfl) (isC := [0, 1, 2, 3, 4, 5]) (isR := []) (wr := []) (hC := rfl) (hR := rfl) (hnC := rfl) (hn := rfl) (hdis := by decide) (hR1 := ⟨Nat.le_of_ble_eq_true rfl, Nat.le_of_ble_eq_true rfl⟩) (hcs := ⟨Nat.le_of_ble_eq_true rfl, Nat.le_of_ble_eq_true rfl⟩) (fun v_ w_ hp_ => ?_)
            obtain ⟨n2_111, fb2_111, xs2_111, rfl, rfl, g111_l, g111_s, g111_o, g111_p, g111_b⟩ := hp_
            replace g111_l : xs2_111.length = n2_111 := g111_l
            replace g111_s : LsA fb2_111 xs2_111 := g111_s
            replace g111_o : xs2_111.Pairwise (· ≤ ·) := g111_o
            replace g111_p : xs2_111.Perm (hg lf lt (m - 1) (tree ||| 2 ^ (m - 1)) (unt g (grp g ((lf (m - 1)).toNat)) (grp g ((lt (m - 1)).toNat)) 6) ++ xs2_52) := g111_p
            replace g111_b : ∀ x_ ∈ xs2_111, x_ < 16384 := g111_b
            show Wx _ _ _ _ _ _ _ _ _ _ _ _ _ _ _ _ 114 [(7, .int (iI ((grp g ((lt (m - 1)).toNat) : Nat) : Int))), (6, .int (iI ((grp g ((lf (m - 1)).toNat) : Nat) : Int))), (5, .int (iI (5 - ((popc tree : Nat) : Int)))), (0, .ref k), (1, .int (iI link)), (2, .int (iI (tree : Int))), (3, .int (iI (g : Int))), (4, .ref h)] [] [(k, ob 8 [.ref lk, .int (iI s0), .ref lk]), (lk, ob 2 [.ref la_, .ref lb_, .int (iI (nl : Int)), .ref lf_, .ref lt_]), (lf_, ia E 14 lf), (lt_, ia E 14 lt), (h, ob 7 [.ref hb, .ref ha, .ref hc, .int (iI (n2_111 : Int)), .int (iI sg)]), (hb, ia E 2002 fb2_111)]
            exact x_vret C hr dX9_hang_114 ⟨n2_111, fb2_111, xs2_111, rfl, rfl, (show xs2_111.length = n2_111 from g111_l), (show LsA fb2_111 xs2_111 from g111_s), (show xs2_111.Pairwise (· ≤ ·) from g111_o), (show xs2_111.Perm (hg lf lt m tree g ++ xs) from two_perm hV2 g52_p g111_p), (show ∀ x_ ∈ xs2_111, x_ < 16384 from g111_b)⟩
        ·
          exact x_vret C hr dX9_hang_43 ⟨n, fb, xs, rfl, rfl, (show xs.length = n from hlen), (show LsA fb xs from hls), (show xs.Pairwise (· ≤ ·) from hso), (show xs.Perm (hg lf lt m tree g ++ xs) from by rw [hg_0 (by omega) (by omega)]; exact List.Perm.refl _), (show ∀ x_ ∈ xs, x_ < 16384 from hbd)⟩
  ·
    refine x_aload (pc' := 15) C 5 dX9_hang_13 rfl rfl ?_
    refine x_iload_n (pc' := 16) C 3 dX9_hang_15 rfl rfl ?_
    refine x_callV (pc' := 19) (As := [.int (iI (tree : Int))]) (rest := []) (q0 := 0) C rfl rfl cv_X9_32_X8 dX9_hang_16 rfl (c_X8_insert l E h hb ha hc n tree sg fb xs (show n < 2002 from by rw [hg_5 (show popc tree = 5 by omega), List.length_singleton] at hcap; omega) (show tree < 1000000 from by omega) (show xs.length = n from hlen) (show LsA fb xs from hls) (show xs.Pairwise (· ≤ ·) from hso) (show ∀ j (h : j < xs.length), xs[j] < 1000000 from get_bd (fun x_ hx_ => Nat.lt_trans (hbd x_ hx_) (by decide)))) mm_X8_insert (hstk := rfl) (hlen := rfl) (hcat := Nat.le_of_ble_eq_true rfl) (isC := [4, 5]) (isR := [0, 1, 2, 3]) (wr := [(k, ob 8 [.ref lk, .int (iI s0), .ref lk]), (lk, ob 2 [.ref la_, .ref lb_, .int (iI (nl : Int)), .ref lf_, .ref lt_]), (lf_, ia E 14 lf), (lt_, ia E 14 lt)]) (hC := rfl) (hR := rfl) (hnC := rfl) (hn := rfl) (hdis := by decide) (hR1 := ⟨Nat.le_of_ble_eq_true rfl, Nat.le_of_ble_eq_true rfl⟩) (hcs := ⟨Nat.le_of_ble_eq_true rfl, Nat.le_of_ble_eq_true rfl⟩) (fun v_ w_ hp_ => ?_)
    obtain ⟨fb2_16, xs2_16, rfl, rfl, g16_l, g16_s, g16_o, g16_p⟩ := hp_
    replace g16_l : xs2_16.length = n + 1 := g16_l
    replace g16_s : LsA fb2_16 xs2_16 := g16_s
    replace g16_o : xs2_16.Pairwise (· ≤ ·) := g16_o
    replace g16_p : xs2_16.Perm (tree :: xs) := g16_p
    show Wx _ _ _ _ _ _ _ _ _ _ _ _ _ _ _ _ 19 [(5, .int (iI (5 - ((popc tree : Nat) : Int)))), (0, .ref k), (1, .int (iI link)), (2, .int (iI (tree : Int))), (3, .int (iI (g : Int))), (4, .ref h)] [] [(k, ob 8 [.ref lk, .int (iI s0), .ref lk]), (lk, ob 2 [.ref la_, .ref lb_, .int (iI (nl : Int)), .ref lf_, .ref lt_]), (lf_, ia E 14 lf), (lt_, ia E 14 lt), (h, ob 7 [.ref hb, .ref ha, .ref hc, .int (iI ((n + 1 : Nat) : Int)), .int (iI sg)]), (hb, ia E 2002 fb2_16)]
    exact x_vret C hr dX9_hang_19 ⟨(n + 1), fb2_16, xs2_16, rfl, rfl, (show xs2_16.length = (n + 1) from g16_l), (show LsA fb2_16 xs2_16 from g16_s), (show xs2_16.Pairwise (· ≤ ·) from g16_o), (show xs2_16.Perm (hg lf lt m tree g ++ xs) from by rw [hg_5 (show popc tree = 5 by omega)]; exact g16_p), (show ∀ x_ ∈ xs2_16, x_ < 16384 from mem_bd (L := [tree]) g16_p (one_bd htr) hbd)⟩

set_option maxHeartbeats 4000000 in
set_option maxRecDepth 100000 in
theorem c_X9_hang_4 (l : Launch) (E : EV) (k : Nat) (lk : Nat) (la_ : Nat) (lb_ : Nat) (lf_ : Nat) (lt_ : Nat) (nl : Nat) (s0 : Int) (lf : Nat → Int) (lt : Nat → Int) (h : Nat) (hb : Nat) (ha : Nat) (hc : Nat) (sg : Int) (fb : Nat → Int) (n : Nat) (m : Nat) (tree : Nat) (g : Nat) (link : Int) (xs : List Nat) (hnl : nl ≤ 14) (hlf : ∀ j_ : Nat, j_ < nl → 0 ≤ lf j_ ∧ lf j_ ≤ 5) (hlt : ∀ j_ : Nat, j_ < nl → 0 ≤ lt j_ ∧ lt j_ ≤ 5) (hcap : (hg lf lt m tree g).length + xs.length ≤ 2002) (hm : (link + 1).toNat = m ∧ -1 ≤ link) (hmL : m ≤ 4 ∧ m ≤ nl) (htr : tree < 16384) (hgg : g < 262144) (hlen : xs.length = n) (hls : LsA fb xs) (hso : xs.Pairwise (· ≤ ·)) (hbd : ∀ x_ ∈ xs, x_ < 16384) : MC l E yX9_hang cX9_hang 8 (none) ({ frames := 5, cells := 0, slots := 0, locals := 130 }) [.ref k, .int (iI link), .int (iI (tree : Int)), .int (iI (g : Int)), .ref h] [(k, ob 8 [.ref lk, .int (iI s0), .ref lk]), (lk, ob 2 [.ref la_, .ref lb_, .int (iI (nl : Int)), .ref lf_, .ref lt_]), (lf_, ia E 14 lf), (lt_, ia E 14 lt), (h, ob 7 [.ref hb, .ref ha, .ref hc, .int (iI (n : Int)), .int (iI sg)]), (hb, ia E 2002 fb)] (fun v_ w_ => ∃ (n2 : Nat) (fb2 : Nat → Int) (xs2 : List Nat), v_ = none ∧ w_ = [(k, ob 8 [.ref lk, .int (iI s0), .ref lk]), (lk, ob 2 [.ref la_, .ref lb_, .int (iI (nl : Int)), .ref lf_, .ref lt_]), (lf_, ia E 14 lf), (lt_, ia E 14 lt), (h, ob 7 [.ref hb, .ref ha, .ref hc, .int (iI (n2 : Int)), .int (iI sg)]), (hb, ia E 2002 fb2)] ∧ (xs2.length = n2) ∧ (LsA fb2 xs2) ∧ (xs2.Pairwise (· ≤ ·)) ∧ (xs2.Perm (hg lf lt m tree g ++ xs)) ∧ (∀ x_ ∈ xs2, x_ < 16384)) := by
  refine MC.of (by decide +kernel) (Nat.le_of_ble_eq_true rfl) ?_
  intro p_ e_ s_ m_ args_ below_ meth_ c_ A_ C hr hnm
  have C : Cx p_ s_ m_ args_ meth_ c_ E A_ 8 cX9_hang RX9 := C
  have hpc := popc_le tree
  show Wx _ _ _ _ _ _ _ _ _ _ _ _ _ _ _ _ 0 [(0, .ref k), (1, .int (iI link)), (2, .int (iI (tree : Int))), (3, .int (iI (g : Int))), (4, .ref h)] [] [(k, ob 8 [.ref lk, .int (iI s0), .ref lk]), (lk, ob 2 [.ref la_, .ref lb_, .int (iI (nl : Int)), .ref lf_, .ref lt_]), (lf_, ia E 14 lf), (lt_, ia E 14 lt), (h, ob 7 [.ref hb, .ref ha, .ref hc, .int (iI (n : Int)), .int (iI sg)]), (hb, ia E 2002 fb)]
  refine x_iconst (pc' := 1) C dX9_hang_0 rfl ?_
  refine x_iload_n (pc' := 2) C 2 dX9_hang_1 rfl rfl ?_
  refine x_callS (pc' := 5) (As := [.int (iI (tree : Int))]) (rest := [.int (iI 5)]) C cs_X9_26 dX9_hang_2 rfl (c_J6_bitCount_0f7a4 l E tree (show tree < 1000000 from by omega)) mm_J6_bitCount_0f7a4 (hstk := rfl) (hlen := rfl) (hcat := Nat.le_of_ble_eq_true rfl) (isC := []) (isR := [0, 1, 2, 3, 4, 5]) (wr := [(k, ob 8 [.ref lk, .int (iI s0), .ref lk]), (lk, ob 2 [.ref la_, .ref lb_, .int (iI (nl : Int)), .ref lf_, .ref lt_]), (lf_, ia E 14 lf), (lt_, ia E 14 lt), (h, ob 7 [.ref hb, .ref ha, .ref hc, .int (iI (n : Int)), .int (iI sg)]), (hb, ia E 2002 fb)]) (hC := rfl) (hR := rfl) (hnC := rfl) (hn := rfl) (hdis := by decide) (hR1 := ⟨Nat.le_of_ble_eq_true rfl, Nat.le_of_ble_eq_true rfl⟩) (hcs := ⟨Nat.le_of_ble_eq_true rfl, Nat.le_of_ble_eq_true rfl⟩) (fun v_ w_ hp_ => ?_)
  obtain ⟨rfl, rfl⟩ := hp_
  show Wx _ _ _ _ _ _ _ _ _ _ _ _ _ _ _ _ 5 [(0, .ref k), (1, .int (iI link)), (2, .int (iI (tree : Int))), (3, .int (iI (g : Int))), (4, .ref h)] [.int (iI ((popc tree : Nat) : Int)), .int (iI 5)] [(k, ob 8 [.ref lk, .int (iI s0), .ref lk]), (lk, ob 2 [.ref la_, .ref lb_, .int (iI (nl : Int)), .ref lf_, .ref lt_]), (lf_, ia E 14 lf), (lt_, ia E 14 lt), (h, ob 7 [.ref hb, .ref ha, .ref hc, .int (iI (n : Int)), .int (iI sg)]), (hb, ia E 2002 fb)]
  refine x_isub (pc' := 6) C dX9_hang_5 rfl ?_
  refine x_istore (pc' := 8) (lv' := [(5, .int (iI (5 - ((popc tree : Nat) : Int)))), (0, .ref k), (1, .int (iI link)), (2, .int (iI (tree : Int))), (3, .int (iI (g : Int))), (4, .ref h)]) C dX9_hang_6 rfl (by decide) rfl ?_
  refine x_iload (pc' := 10) C 0 dX9_hang_8 rfl rfl ?_
  refine x_if_ne (pc' := 13) (tgt := 20) C dX9_hang_10 rfl (by decide) (by omega) (fun c10 => ?_) (fun c10 => ?_)
  ·
    refine x_iload_n (pc' := 21) C 2 dX9_hang_20 rfl rfl ?_
    refine x_if_lt (pc' := 24) (tgt := 43) C dX9_hang_21 rfl (by decide) (by omega) (fun c21 => ?_) (fun c21 => ?_)
    ·
      exact x_vret C hr dX9_hang_43 ⟨n, fb, xs, rfl, rfl, (show xs.length = n from hlen), (show LsA fb xs from hls), (show xs.Pairwise (· ≤ ·) from hso), (show xs.Perm (hg lf lt m tree g ++ xs) from by rw [hg_0 (by omega) (by omega)]; exact List.Perm.refl _), (show ∀ x_ ∈ xs, x_ < 16384 from hbd)⟩
    ·
      refine x_iload_n (pc' := 25) C 2 dX9_hang_24 rfl rfl ?_
      refine x_aload_n (pc' := 26) C 1 dX9_hang_25 rfl rfl ?_
      refine x_get (pc' := 29) C dX9_hang_26 rfl ff_X9_9_8 0 rfl rfl ?_
      refine x_get (pc' := 32) C dX9_hang_29 rfl ff_X9_15_2 1 rfl rfl ?_
      refine x_icmp_ge (pc' := 35) (tgt := 43) C dX9_hang_32 rfl (by decide) (by omega) (by omega) (fun c32 => ?_) (fun c32 => ?_)
      ·
        exact absurd c32 (by omega)
      ·
        refine x_iload_n (pc' := 36) C 2 dX9_hang_35 rfl rfl ?_
        refine x_iconst (pc' := 37) C dX9_hang_36 rfl ?_
        refine x_iadd (pc' := 38) C dX9_hang_37 rfl ?_
        refine x_iload (pc' := 40) C 0 dX9_hang_38 rfl rfl ?_
        refine x_icmp_ge (pc' := 43) (tgt := 44) C dX9_hang_40 rfl (by decide) (by omega) (by omega) (fun c40 => ?_) (fun c40 => ?_)
        ·
          have hV := hg_s (lf := lf) (lt := lt) (m := m) (tree := tree) (g := g) (by omega) (by omega) (by omega)
          have hf1 := hlf (m - 1) (by omega)
          have ht1 := hlt (m - 1) (by omega)
          have hga := grp_le g (lf (m - 1)).toNat
          have hgb := grp_le g (lt (m - 1)).toNat
          refine x_aload_n (pc' := 45) C 1 dX9_hang_44 rfl rfl ?_
          refine x_iload_n (pc' := 46) C 2 dX9_hang_45 rfl rfl ?_
          refine x_iconst (pc' := 47) C dX9_hang_46 rfl ?_
          refine x_isub (pc' := 48) C dX9_hang_47 rfl ?_
          refine x_iload_n (pc' := 49) C 3 dX9_hang_48 rfl rfl ?_
          refine x_iload_n (pc' := 50) C 4 dX9_hang_49 rfl rfl ?_
          refine x_aload (pc' := 52) C 5 dX9_hang_50 rfl rfl ?_
          refine x_callV (pc' := 55) (As := [.int (iI (link - 1)), .int (iI (tree : Int)), .int (iI (g : Int)), .ref h]) (rest := []) (q0 := 0) C rfl rfl cv_X9_22_X9 dX9_hang_52 rfl (c_X9_hang_3 l E k lk la_ lb_ lf_ lt_ nl s0 lf lt h hb ha hc sg fb n (m - 1) tree g (link - 1) xs (show nl ≤ 14 from by omega) (show ∀ j_ : Nat, j_ < nl → 0 ≤ lf j_ ∧ lf j_ ≤ 5 from hlf) (show ∀ j_ : Nat, j_ < nl → 0 ≤ lt j_ ∧ lt j_ ≤ 5 from hlt) (show (hg lf lt (m - 1) tree g).length + xs.length ≤ 2002 from by rw [hV, List.length_append] at hcap; omega) (show ((link - 1) + 1).toNat = (m - 1) ∧ -1 ≤ (link - 1) from by omega) (show (m - 1) ≤ 3 ∧ (m - 1) ≤ nl from by omega) (show tree < 16384 from htr) (show g < 262144 from hgg) (show xs.length = n from hlen) (show LsA fb xs from hls) (show xs.Pairwise (· ≤ ·) from hso) (show ∀ x_ ∈ xs, x_ < 16384 from hbd)) mm_X9_hang (hstk := rfl) (hlen := rfl) (hcat := Nat.le_of_ble_eq_true rfl) (isC := [0, 1, 2, 3, 4, 5]) (isR := []) (wr := []) (hC := rfl) (hR := rfl) (hnC := rfl) (hn := rfl) (hdis := by decide) (hR1 := ⟨Nat.le_of_ble_eq_true rfl, Nat.le_of_ble_eq_true rfl⟩) (hcs := ⟨Nat.le_of_ble_eq_true rfl, Nat.le_of_ble_eq_true rfl⟩) (fun v_ w_ hp_ => ?_)
          obtain ⟨n2_52, fb2_52, xs2_52, rfl, rfl, g52_l, g52_s, g52_o, g52_p, g52_b⟩ := hp_
          replace g52_l : xs2_52.length = n2_52 := g52_l
          replace g52_s : LsA fb2_52 xs2_52 := g52_s
          replace g52_o : xs2_52.Pairwise (· ≤ ·) := g52_o
          replace g52_p : xs2_52.Perm (hg lf lt (m - 1) tree g ++ xs) := g52_p
          replace g52_b : ∀ x_ ∈ xs2_52, x_ < 16384 := g52_b
          show Wx _ _ _ _ _ _ _ _ _ _ _ _ _ _ _ _ 55 [(5, .int (iI (5 - ((popc tree : Nat) : Int)))), (0, .ref k), (1, .int (iI link)), (2, .int (iI (tree : Int))), (3, .int (iI (g : Int))), (4, .ref h)] [] [(k, ob 8 [.ref lk, .int (iI s0), .ref lk]), (lk, ob 2 [.ref la_, .ref lb_, .int (iI (nl : Int)), .ref lf_, .ref lt_]), (lf_, ia E 14 lf), (lt_, ia E 14 lt), (h, ob 7 [.ref hb, .ref ha, .ref hc, .int (iI (n2_52 : Int)), .int (iI sg)]), (hb, ia E 2002 fb2_52)]
          refine x_iload_n (pc' := 56) C 4 dX9_hang_55 rfl rfl ?_
          refine x_aload_n (pc' := 57) C 1 dX9_hang_56 rfl rfl ?_
          refine x_get (pc' := 60) C dX9_hang_57 rfl ff_X9_9_8 0 rfl rfl ?_
          refine x_get (pc' := 63) C dX9_hang_60 rfl ff_X9_38_2 1 rfl rfl ?_
          refine x_iload_n (pc' := 64) C 2 dX9_hang_63 rfl rfl ?_
          refine x_iald (pc' := 65) C (m - 1) dX9_hang_64 rfl 2 rfl (by omega) (by omega) (by omega) ?_
          refine x_top (b := .int (iI (((lf (m - 1)).toNat : Nat) : Int))) (by congr 2; omega) ?_
          refine x_callS (pc' := 68) (As := [.int (iI (g : Int)), .int (iI (((lf (m - 1)).toNat : Nat) : Int))]) (rest := []) C cs_X9_42 dX9_hang_65 rfl (c_X9_groupOf l E g ((lf (m - 1)).toNat) (show g < 1000000 from by omega) (show ((lf (m - 1)).toNat) ≤ 5 from by omega)) mm_X9_groupOf (hstk := rfl) (hlen := rfl) (hcat := Nat.le_of_ble_eq_true rfl) (isC := []) (isR := [0, 1, 2, 3, 4, 5]) (wr := [(k, ob 8 [.ref lk, .int (iI s0), .ref lk]), (lk, ob 2 [.ref la_, .ref lb_, .int (iI (nl : Int)), .ref lf_, .ref lt_]), (lf_, ia E 14 lf), (lt_, ia E 14 lt), (h, ob 7 [.ref hb, .ref ha, .ref hc, .int (iI (n2_52 : Int)), .int (iI sg)]), (hb, ia E 2002 fb2_52)]) (hC := rfl) (hR := rfl) (hnC := rfl) (hn := rfl) (hdis := by decide) (hR1 := ⟨Nat.le_of_ble_eq_true rfl, Nat.le_of_ble_eq_true rfl⟩) (hcs := ⟨Nat.le_of_ble_eq_true rfl, Nat.le_of_ble_eq_true rfl⟩) (fun v_ w_ hp_ => ?_)
          obtain ⟨rfl, rfl⟩ := hp_
          show Wx _ _ _ _ _ _ _ _ _ _ _ _ _ _ _ _ 68 [(5, .int (iI (5 - ((popc tree : Nat) : Int)))), (0, .ref k), (1, .int (iI link)), (2, .int (iI (tree : Int))), (3, .int (iI (g : Int))), (4, .ref h)] [.int (iI ((grp g ((lf (m - 1)).toNat) : Nat) : Int))] [(k, ob 8 [.ref lk, .int (iI s0), .ref lk]), (lk, ob 2 [.ref la_, .ref lb_, .int (iI (nl : Int)), .ref lf_, .ref lt_]), (lf_, ia E 14 lf), (lt_, ia E 14 lt), (h, ob 7 [.ref hb, .ref ha, .ref hc, .int (iI (n2_52 : Int)), .int (iI sg)]), (hb, ia E 2002 fb2_52)]
          refine x_istore (pc' := 70) (lv' := [(6, .int (iI ((grp g ((lf (m - 1)).toNat) : Nat) : Int))), (5, .int (iI (5 - ((popc tree : Nat) : Int)))), (0, .ref k), (1, .int (iI link)), (2, .int (iI (tree : Int))), (3, .int (iI (g : Int))), (4, .ref h)]) C dX9_hang_68 rfl (by decide) rfl ?_
          refine x_iload_n (pc' := 71) C 5 dX9_hang_70 rfl rfl ?_
          refine x_aload_n (pc' := 72) C 2 dX9_hang_71 rfl rfl ?_
          refine x_get (pc' := 75) C dX9_hang_72 rfl ff_X9_9_8 0 rfl rfl ?_
          refine x_get (pc' := 78) C dX9_hang_75 rfl ff_X9_46_2 1 rfl rfl ?_
          refine x_iload_n (pc' := 79) C 3 dX9_hang_78 rfl rfl ?_
          refine x_iald (pc' := 80) C (m - 1) dX9_hang_79 rfl 3 rfl (by omega) (by omega) (by omega) ?_
          refine x_top (b := .int (iI (((lt (m - 1)).toNat : Nat) : Int))) (by congr 2; omega) ?_
          refine x_callS (pc' := 83) (As := [.int (iI (g : Int)), .int (iI (((lt (m - 1)).toNat : Nat) : Int))]) (rest := []) C cs_X9_42 dX9_hang_80 rfl (c_X9_groupOf l E g ((lt (m - 1)).toNat) (show g < 1000000 from by omega) (show ((lt (m - 1)).toNat) ≤ 5 from by omega)) mm_X9_groupOf (hstk := rfl) (hlen := rfl) (hcat := Nat.le_of_ble_eq_true rfl) (isC := []) (isR := [0, 1, 2, 3, 4, 5]) (wr := [(k, ob 8 [.ref lk, .int (iI s0), .ref lk]), (lk, ob 2 [.ref la_, .ref lb_, .int (iI (nl : Int)), .ref lf_, .ref lt_]), (lf_, ia E 14 lf), (lt_, ia E 14 lt), (h, ob 7 [.ref hb, .ref ha, .ref hc, .int (iI (n2_52 : Int)), .int (iI sg)]), (hb, ia E 2002 fb2_52)]) (hC := rfl) (hR := rfl) (hnC := rfl) (hn := rfl) (hdis := by decide) (hR1 := ⟨Nat.le_of_ble_eq_true rfl, Nat.le_of_ble_eq_true rfl⟩) (hcs := ⟨Nat.le_of_ble_eq_true rfl, Nat.le_of_ble_eq_true rfl⟩) (fun v_ w_ hp_ => ?_)
          obtain ⟨rfl, rfl⟩ := hp_
          show Wx _ _ _ _ _ _ _ _ _ _ _ _ _ _ _ _ 83 [(6, .int (iI ((grp g ((lf (m - 1)).toNat) : Nat) : Int))), (5, .int (iI (5 - ((popc tree : Nat) : Int)))), (0, .ref k), (1, .int (iI link)), (2, .int (iI (tree : Int))), (3, .int (iI (g : Int))), (4, .ref h)] [.int (iI ((grp g ((lt (m - 1)).toNat) : Nat) : Int))] [(k, ob 8 [.ref lk, .int (iI s0), .ref lk]), (lk, ob 2 [.ref la_, .ref lb_, .int (iI (nl : Int)), .ref lf_, .ref lt_]), (lf_, ia E 14 lf), (lt_, ia E 14 lt), (h, ob 7 [.ref hb, .ref ha, .ref hc, .int (iI (n2_52 : Int)), .int (iI sg)]), (hb, ia E 2002 fb2_52)]
          refine x_istore (pc' := 85) (lv' := [(7, .int (iI ((grp g ((lt (m - 1)).toNat) : Nat) : Int))), (6, .int (iI ((grp g ((lf (m - 1)).toNat) : Nat) : Int))), (5, .int (iI (5 - ((popc tree : Nat) : Int)))), (0, .ref k), (1, .int (iI link)), (2, .int (iI (tree : Int))), (3, .int (iI (g : Int))), (4, .ref h)]) C dX9_hang_83 rfl (by decide) rfl ?_
          refine x_iload (pc' := 87) C 1 dX9_hang_85 rfl rfl ?_
          refine x_iload (pc' := 89) C 0 dX9_hang_87 rfl rfl ?_
          refine x_icmp_eq (pc' := 92) (tgt := 114) C dX9_hang_89 rfl (by decide) (by omega) (by omega) (fun c89 => ?_) (fun c89 => ?_)
          ·
            exact x_vret C hr dX9_hang_114 ⟨n2_52, fb2_52, xs2_52, rfl, rfl, (show xs2_52.length = n2_52 from g52_l), (show LsA fb2_52 xs2_52 from g52_s), (show xs2_52.Pairwise (· ≤ ·) from g52_o), (show xs2_52.Perm (hg lf lt m tree g ++ xs) from two_perm (W := []) (by rw [hV, if_pos (by omega)]) g52_p (List.Perm.refl _)), (show ∀ x_ ∈ xs2_52, x_ < 16384 from g52_b)⟩
          ·
            have hV2 := hV
            rw [if_neg (by omega)] at hV2
            refine x_aload_n (pc' := 93) C 3 dX9_hang_92 rfl rfl ?_
            refine x_iload_n (pc' := 94) C 4 dX9_hang_93 rfl rfl ?_
            refine x_iconst (pc' := 95) C dX9_hang_94 rfl ?_
            refine x_isub (pc' := 96) C dX9_hang_95 rfl ?_
            refine x_iload_n (pc' := 97) C 5 dX9_hang_96 rfl rfl ?_
            refine x_iconst (pc' := 98) C dX9_hang_97 rfl ?_
            refine x_iload_n (pc' := 99) C 4 dX9_hang_98 rfl rfl ?_
            refine x_ishl (pc' := 100) (z := (iI ((2 ^ (m - 1) : Nat) : Int))) C dX9_hang_99 rfl (by rw [show link = ((m - 1 : Nat) : Int) by omega]; exact bt_shl (by omega)) ?_
            refine x_ior (pc' := 101) (z := (iI ((tree ||| 2 ^ (m - 1) : Nat) : Int))) C dX9_hang_100 rfl (bt_or _ _) ?_
            refine x_iload_n (pc' := 102) C 6 dX9_hang_101 rfl rfl ?_
            refine x_iload (pc' := 104) C 1 dX9_hang_102 rfl rfl ?_
            refine x_iload (pc' := 106) C 0 dX9_hang_104 rfl rfl ?_
            refine x_callS (pc' := 109) (As := [.int (iI (g : Int)), .int (iI ((grp g ((lf (m - 1)).toNat) : Nat) : Int)), .int (iI ((grp g ((lt (m - 1)).toNat) : Nat) : Int))]) (rest := [.int (iI ((tree ||| 2 ^ (m - 1) : Nat) : Int)), .int (iI (link - 1)), .ref k]) C cs_X9_49 dX9_hang_106 rfl (c_X9_unite l E g (grp g ((lf (m - 1)).toNat)) (grp g ((lt (m - 1)).toNat)) (show g < 262144 from by omega) (show (grp g ((lf (m - 1)).toNat)) ≤ 7 from by omega) (show (grp g ((lt (m - 1)).toNat)) ≤ 7 from by omega)) mm_X9_unite (hstk := rfl) (hlen := rfl) (hcat := Nat.le_of_ble_eq_true rfl) (isC := []) (isR := [0, 1, 2, 3, 4, 5]) (wr := [(k, ob 8 [.ref lk, .int (iI s0), .ref lk]), (lk, ob 2 [.ref la_, .ref lb_, .int (iI (nl : Int)), .ref lf_, .ref lt_]), (lf_, ia E 14 lf), (lt_, ia E 14 lt), (h, ob 7 [.ref hb, .ref ha, .ref hc, .int (iI (n2_52 : Int)), .int (iI sg)]), (hb, ia E 2002 fb2_52)]) (hC := rfl) (hR := rfl) (hnC := rfl) (hn := rfl) (hdis := by decide) (hR1 := ⟨Nat.le_of_ble_eq_true rfl, Nat.le_of_ble_eq_true rfl⟩) (hcs := ⟨Nat.le_of_ble_eq_true rfl, Nat.le_of_ble_eq_true rfl⟩) (fun v_ w_ hp_ => ?_)
            obtain ⟨rfl, rfl⟩ := hp_
            show Wx _ _ _ _ _ _ _ _ _ _ _ _ _ _ _ _ 109 [(7, .int (iI ((grp g ((lt (m - 1)).toNat) : Nat) : Int))), (6, .int (iI ((grp g ((lf (m - 1)).toNat) : Nat) : Int))), (5, .int (iI (5 - ((popc tree : Nat) : Int)))), (0, .ref k), (1, .int (iI link)), (2, .int (iI (tree : Int))), (3, .int (iI (g : Int))), (4, .ref h)] [.int (iI ((unt g (grp g ((lf (m - 1)).toNat)) (grp g ((lt (m - 1)).toNat)) 6 : Nat) : Int)), .int (iI ((tree ||| 2 ^ (m - 1) : Nat) : Int)), .int (iI (link - 1)), .ref k] [(k, ob 8 [.ref lk, .int (iI s0), .ref lk]), (lk, ob 2 [.ref la_, .ref lb_, .int (iI (nl : Int)), .ref lf_, .ref lt_]), (lf_, ia E 14 lf), (lt_, ia E 14 lt), (h, ob 7 [.ref hb, .ref ha, .ref hc, .int (iI (n2_52 : Int)), .int (iI sg)]), (hb, ia E 2002 fb2_52)]
            refine x_aload (pc' := 111) C 7 dX9_hang_109 rfl rfl ?_
            refine x_callV (pc' := 114) (As := [.int (iI (link - 1)), .int (iI ((tree ||| 2 ^ (m - 1) : Nat) : Int)), .int (iI ((unt g (grp g ((lf (m - 1)).toNat)) (grp g ((lt (m - 1)).toNat)) 6 : Nat) : Int)), .ref h]) (rest := []) (q0 := 0) C rfl rfl cv_X9_22_X9 dX9_hang_111 rfl (c_X9_hang_3 l E k lk la_ lb_ lf_ lt_ nl s0 lf lt h hb ha hc sg fb2_52 n2_52 (m - 1) (tree ||| 2 ^ (m - 1)) (unt g (grp g ((lf (m - 1)).toNat)) (grp g ((lt (m - 1)).toNat)) 6) (link - 1) xs2_52 (show nl ≤ 14 from by omega) (show ∀ j_ : Nat, j_ < nl → 0 ≤ lf j_ ∧ lf j_ ≤ 5 from hlf) (show ∀ j_ : Nat, j_ < nl → 0 ≤ lt j_ ∧ lt j_ ≤ 5 from hlt) (show (hg lf lt (m - 1) (tree ||| 2 ^ (m - 1)) (unt g (grp g ((lf (m - 1)).toNat)) (grp g ((lt (m - 1)).toNat)) 6)).length + xs2_52.length ≤ 2002 from by have hq_ := g52_p.length_eq; rw [List.length_append] at hq_; rw [hV2, List.length_append] at hcap; omega) (show ((link - 1) + 1).toNat = (m - 1) ∧ -1 ≤ (link - 1) from by omega) (show (m - 1) ≤ 3 ∧ (m - 1) ≤ nl from by omega) (show (tree ||| 2 ^ (m - 1)) < 16384 from or_bd (N := 14) htr (by omega)) (show (unt g (grp g ((lf (m - 1)).toNat)) (grp g ((lt (m - 1)).toNat)) 6) < 262144 from unt_bd (g := g) hgg (grp_le _ _) (grp_le _ _) 6 (by decide)) (show xs2_52.length = n2_52 from g52_l) (show LsA fb2_52 xs2_52 from g52_s) (show xs2_52.Pairwise (· ≤ ·) from g52_o) (show ∀ x_ ∈ xs2_52, x_ < 16384 from g52_b)) mm_X9_hang (hstk := rfl) (hlen := rfl) (hcat := Nat.le_of_ble_eq_true rfl) (isC := [0, 1, 2, 3, 4, 5]) (isR := []) (wr := []) (hC := rfl) (hR := rfl) (hnC := rfl) (hn := rfl) (hdis := by decide) (hR1 := ⟨Nat.le_of_ble_eq_true rfl, Nat.le_of_ble_eq_true rfl⟩) (hcs := ⟨Nat.le_of_ble_eq_true rfl, Nat.le_of_ble_eq_true rfl⟩) (fun v_ w_ hp_ => ?_)
            obtain ⟨n2_111, fb2_111, xs2_111, rfl, rfl, g111_l, g111_s, g111_o, g111_p, g111_b⟩ := hp_
            replace g111_l : xs2_111.length = n2_111 := g111_l
            replace g111_s : LsA fb2_111 xs2_111 := g111_s
            replace g111_o : xs2_111.Pairwise (· ≤ ·) := g111_o
            replace g111_p : xs2_111.Perm (hg lf lt (m - 1) (tree ||| 2 ^ (m - 1)) (unt g (grp g ((lf (m - 1)).toNat)) (grp g ((lt (m - 1)).toNat)) 6) ++ xs2_52) := g111_p
            replace g111_b : ∀ x_ ∈ xs2_111, x_ < 16384 := g111_b
            show Wx _ _ _ _ _ _ _ _ _ _ _ _ _ _ _ _ 114 [(7, .int (iI ((grp g ((lt (m - 1)).toNat) : Nat) : Int))), (6, .int (iI ((grp g ((lf (m - 1)).toNat) : Nat) : Int))), (5, .int (iI (5 - ((popc tree : Nat) : Int)))), (0, .ref k), (1, .int (iI link)), (2, .int (iI (tree : Int))), (3, .int (iI (g : Int))), (4, .ref h)] [] [(k, ob 8 [.ref lk, .int (iI s0), .ref lk]), (lk, ob 2 [.ref la_, .ref lb_, .int (iI (nl : Int)), .ref lf_, .ref lt_]), (lf_, ia E 14 lf), (lt_, ia E 14 lt), (h, ob 7 [.ref hb, .ref ha, .ref hc, .int (iI (n2_111 : Int)), .int (iI sg)]), (hb, ia E 2002 fb2_111)]
            exact x_vret C hr dX9_hang_114 ⟨n2_111, fb2_111, xs2_111, rfl, rfl, (show xs2_111.length = n2_111 from g111_l), (show LsA fb2_111 xs2_111 from g111_s), (show xs2_111.Pairwise (· ≤ ·) from g111_o), (show xs2_111.Perm (hg lf lt m tree g ++ xs) from two_perm hV2 g52_p g111_p), (show ∀ x_ ∈ xs2_111, x_ < 16384 from g111_b)⟩
        ·
          exact x_vret C hr dX9_hang_43 ⟨n, fb, xs, rfl, rfl, (show xs.length = n from hlen), (show LsA fb xs from hls), (show xs.Pairwise (· ≤ ·) from hso), (show xs.Perm (hg lf lt m tree g ++ xs) from by rw [hg_0 (by omega) (by omega)]; exact List.Perm.refl _), (show ∀ x_ ∈ xs, x_ < 16384 from hbd)⟩
  ·
    refine x_aload (pc' := 15) C 5 dX9_hang_13 rfl rfl ?_
    refine x_iload_n (pc' := 16) C 3 dX9_hang_15 rfl rfl ?_
    refine x_callV (pc' := 19) (As := [.int (iI (tree : Int))]) (rest := []) (q0 := 0) C rfl rfl cv_X9_32_X8 dX9_hang_16 rfl (c_X8_insert l E h hb ha hc n tree sg fb xs (show n < 2002 from by rw [hg_5 (show popc tree = 5 by omega), List.length_singleton] at hcap; omega) (show tree < 1000000 from by omega) (show xs.length = n from hlen) (show LsA fb xs from hls) (show xs.Pairwise (· ≤ ·) from hso) (show ∀ j (h : j < xs.length), xs[j] < 1000000 from get_bd (fun x_ hx_ => Nat.lt_trans (hbd x_ hx_) (by decide)))) mm_X8_insert (hstk := rfl) (hlen := rfl) (hcat := Nat.le_of_ble_eq_true rfl) (isC := [4, 5]) (isR := [0, 1, 2, 3]) (wr := [(k, ob 8 [.ref lk, .int (iI s0), .ref lk]), (lk, ob 2 [.ref la_, .ref lb_, .int (iI (nl : Int)), .ref lf_, .ref lt_]), (lf_, ia E 14 lf), (lt_, ia E 14 lt)]) (hC := rfl) (hR := rfl) (hnC := rfl) (hn := rfl) (hdis := by decide) (hR1 := ⟨Nat.le_of_ble_eq_true rfl, Nat.le_of_ble_eq_true rfl⟩) (hcs := ⟨Nat.le_of_ble_eq_true rfl, Nat.le_of_ble_eq_true rfl⟩) (fun v_ w_ hp_ => ?_)
    obtain ⟨fb2_16, xs2_16, rfl, rfl, g16_l, g16_s, g16_o, g16_p⟩ := hp_
    replace g16_l : xs2_16.length = n + 1 := g16_l
    replace g16_s : LsA fb2_16 xs2_16 := g16_s
    replace g16_o : xs2_16.Pairwise (· ≤ ·) := g16_o
    replace g16_p : xs2_16.Perm (tree :: xs) := g16_p
    show Wx _ _ _ _ _ _ _ _ _ _ _ _ _ _ _ _ 19 [(5, .int (iI (5 - ((popc tree : Nat) : Int)))), (0, .ref k), (1, .int (iI link)), (2, .int (iI (tree : Int))), (3, .int (iI (g : Int))), (4, .ref h)] [] [(k, ob 8 [.ref lk, .int (iI s0), .ref lk]), (lk, ob 2 [.ref la_, .ref lb_, .int (iI (nl : Int)), .ref lf_, .ref lt_]), (lf_, ia E 14 lf), (lt_, ia E 14 lt), (h, ob 7 [.ref hb, .ref ha, .ref hc, .int (iI ((n + 1 : Nat) : Int)), .int (iI sg)]), (hb, ia E 2002 fb2_16)]
    exact x_vret C hr dX9_hang_19 ⟨(n + 1), fb2_16, xs2_16, rfl, rfl, (show xs2_16.length = (n + 1) from g16_l), (show LsA fb2_16 xs2_16 from g16_s), (show xs2_16.Pairwise (· ≤ ·) from g16_o), (show xs2_16.Perm (hg lf lt m tree g ++ xs) from by rw [hg_5 (show popc tree = 5 by omega)]; exact g16_p), (show ∀ x_ ∈ xs2_16, x_ < 16384 from mem_bd (L := [tree]) g16_p (one_bd htr) hbd)⟩

set_option maxHeartbeats 4000000 in
set_option maxRecDepth 100000 in
theorem c_X9_hang_5 (l : Launch) (E : EV) (k : Nat) (lk : Nat) (la_ : Nat) (lb_ : Nat) (lf_ : Nat) (lt_ : Nat) (nl : Nat) (s0 : Int) (lf : Nat → Int) (lt : Nat → Int) (h : Nat) (hb : Nat) (ha : Nat) (hc : Nat) (sg : Int) (fb : Nat → Int) (n : Nat) (m : Nat) (tree : Nat) (g : Nat) (link : Int) (xs : List Nat) (hnl : nl ≤ 14) (hlf : ∀ j_ : Nat, j_ < nl → 0 ≤ lf j_ ∧ lf j_ ≤ 5) (hlt : ∀ j_ : Nat, j_ < nl → 0 ≤ lt j_ ∧ lt j_ ≤ 5) (hcap : (hg lf lt m tree g).length + xs.length ≤ 2002) (hm : (link + 1).toNat = m ∧ -1 ≤ link) (hmL : m ≤ 5 ∧ m ≤ nl) (htr : tree < 16384) (hgg : g < 262144) (hlen : xs.length = n) (hls : LsA fb xs) (hso : xs.Pairwise (· ≤ ·)) (hbd : ∀ x_ ∈ xs, x_ < 16384) : MC l E yX9_hang cX9_hang 8 (none) ({ frames := 6, cells := 0, slots := 0, locals := 157 }) [.ref k, .int (iI link), .int (iI (tree : Int)), .int (iI (g : Int)), .ref h] [(k, ob 8 [.ref lk, .int (iI s0), .ref lk]), (lk, ob 2 [.ref la_, .ref lb_, .int (iI (nl : Int)), .ref lf_, .ref lt_]), (lf_, ia E 14 lf), (lt_, ia E 14 lt), (h, ob 7 [.ref hb, .ref ha, .ref hc, .int (iI (n : Int)), .int (iI sg)]), (hb, ia E 2002 fb)] (fun v_ w_ => ∃ (n2 : Nat) (fb2 : Nat → Int) (xs2 : List Nat), v_ = none ∧ w_ = [(k, ob 8 [.ref lk, .int (iI s0), .ref lk]), (lk, ob 2 [.ref la_, .ref lb_, .int (iI (nl : Int)), .ref lf_, .ref lt_]), (lf_, ia E 14 lf), (lt_, ia E 14 lt), (h, ob 7 [.ref hb, .ref ha, .ref hc, .int (iI (n2 : Int)), .int (iI sg)]), (hb, ia E 2002 fb2)] ∧ (xs2.length = n2) ∧ (LsA fb2 xs2) ∧ (xs2.Pairwise (· ≤ ·)) ∧ (xs2.Perm (hg lf lt m tree g ++ xs)) ∧ (∀ x_ ∈ xs2, x_ < 16384)) := by
  refine MC.of (by decide +kernel) (Nat.le_of_ble_eq_true rfl) ?_
  intro p_ e_ s_ m_ args_ below_ meth_ c_ A_ C hr hnm
  have C : Cx p_ s_ m_ args_ meth_ c_ E A_ 8 cX9_hang RX9 := C
  have hpc := popc_le tree
  show Wx _ _ _ _ _ _ _ _ _ _ _ _ _ _ _ _ 0 [(0, .ref k), (1, .int (iI link)), (2, .int (iI (tree : Int))), (3, .int (iI (g : Int))), (4, .ref h)] [] [(k, ob 8 [.ref lk, .int (iI s0), .ref lk]), (lk, ob 2 [.ref la_, .ref lb_, .int (iI (nl : Int)), .ref lf_, .ref lt_]), (lf_, ia E 14 lf), (lt_, ia E 14 lt), (h, ob 7 [.ref hb, .ref ha, .ref hc, .int (iI (n : Int)), .int (iI sg)]), (hb, ia E 2002 fb)]
  refine x_iconst (pc' := 1) C dX9_hang_0 rfl ?_
  refine x_iload_n (pc' := 2) C 2 dX9_hang_1 rfl rfl ?_
  refine x_callS (pc' := 5) (As := [.int (iI (tree : Int))]) (rest := [.int (iI 5)]) C cs_X9_26 dX9_hang_2 rfl (c_J6_bitCount_0f7a4 l E tree (show tree < 1000000 from by omega)) mm_J6_bitCount_0f7a4 (hstk := rfl) (hlen := rfl) (hcat := Nat.le_of_ble_eq_true rfl) (isC := []) (isR := [0, 1, 2, 3, 4, 5]) (wr := [(k, ob 8 [.ref lk, .int (iI s0), .ref lk]), (lk, ob 2 [.ref la_, .ref lb_, .int (iI (nl : Int)), .ref lf_, .ref lt_]), (lf_, ia E 14 lf), (lt_, ia E 14 lt), (h, ob 7 [.ref hb, .ref ha, .ref hc, .int (iI (n : Int)), .int (iI sg)]), (hb, ia E 2002 fb)]) (hC := rfl) (hR := rfl) (hnC := rfl) (hn := rfl) (hdis := by decide) (hR1 := ⟨Nat.le_of_ble_eq_true rfl, Nat.le_of_ble_eq_true rfl⟩) (hcs := ⟨Nat.le_of_ble_eq_true rfl, Nat.le_of_ble_eq_true rfl⟩) (fun v_ w_ hp_ => ?_)
  obtain ⟨rfl, rfl⟩ := hp_
  show Wx _ _ _ _ _ _ _ _ _ _ _ _ _ _ _ _ 5 [(0, .ref k), (1, .int (iI link)), (2, .int (iI (tree : Int))), (3, .int (iI (g : Int))), (4, .ref h)] [.int (iI ((popc tree : Nat) : Int)), .int (iI 5)] [(k, ob 8 [.ref lk, .int (iI s0), .ref lk]), (lk, ob 2 [.ref la_, .ref lb_, .int (iI (nl : Int)), .ref lf_, .ref lt_]), (lf_, ia E 14 lf), (lt_, ia E 14 lt), (h, ob 7 [.ref hb, .ref ha, .ref hc, .int (iI (n : Int)), .int (iI sg)]), (hb, ia E 2002 fb)]
  refine x_isub (pc' := 6) C dX9_hang_5 rfl ?_
  refine x_istore (pc' := 8) (lv' := [(5, .int (iI (5 - ((popc tree : Nat) : Int)))), (0, .ref k), (1, .int (iI link)), (2, .int (iI (tree : Int))), (3, .int (iI (g : Int))), (4, .ref h)]) C dX9_hang_6 rfl (by decide) rfl ?_
  refine x_iload (pc' := 10) C 0 dX9_hang_8 rfl rfl ?_
  refine x_if_ne (pc' := 13) (tgt := 20) C dX9_hang_10 rfl (by decide) (by omega) (fun c10 => ?_) (fun c10 => ?_)
  ·
    refine x_iload_n (pc' := 21) C 2 dX9_hang_20 rfl rfl ?_
    refine x_if_lt (pc' := 24) (tgt := 43) C dX9_hang_21 rfl (by decide) (by omega) (fun c21 => ?_) (fun c21 => ?_)
    ·
      exact x_vret C hr dX9_hang_43 ⟨n, fb, xs, rfl, rfl, (show xs.length = n from hlen), (show LsA fb xs from hls), (show xs.Pairwise (· ≤ ·) from hso), (show xs.Perm (hg lf lt m tree g ++ xs) from by rw [hg_0 (by omega) (by omega)]; exact List.Perm.refl _), (show ∀ x_ ∈ xs, x_ < 16384 from hbd)⟩
    ·
      refine x_iload_n (pc' := 25) C 2 dX9_hang_24 rfl rfl ?_
      refine x_aload_n (pc' := 26) C 1 dX9_hang_25 rfl rfl ?_
      refine x_get (pc' := 29) C dX9_hang_26 rfl ff_X9_9_8 0 rfl rfl ?_
      refine x_get (pc' := 32) C dX9_hang_29 rfl ff_X9_15_2 1 rfl rfl ?_
      refine x_icmp_ge (pc' := 35) (tgt := 43) C dX9_hang_32 rfl (by decide) (by omega) (by omega) (fun c32 => ?_) (fun c32 => ?_)
      ·
        exact absurd c32 (by omega)
      ·
        refine x_iload_n (pc' := 36) C 2 dX9_hang_35 rfl rfl ?_
        refine x_iconst (pc' := 37) C dX9_hang_36 rfl ?_
        refine x_iadd (pc' := 38) C dX9_hang_37 rfl ?_
        refine x_iload (pc' := 40) C 0 dX9_hang_38 rfl rfl ?_
        refine x_icmp_ge (pc' := 43) (tgt := 44) C dX9_hang_40 rfl (by decide) (by omega) (by omega) (fun c40 => ?_) (fun c40 => ?_)
        ·
          have hV := hg_s (lf := lf) (lt := lt) (m := m) (tree := tree) (g := g) (by omega) (by omega) (by omega)
          have hf1 := hlf (m - 1) (by omega)
          have ht1 := hlt (m - 1) (by omega)
          have hga := grp_le g (lf (m - 1)).toNat
          have hgb := grp_le g (lt (m - 1)).toNat
          refine x_aload_n (pc' := 45) C 1 dX9_hang_44 rfl rfl ?_
          refine x_iload_n (pc' := 46) C 2 dX9_hang_45 rfl rfl ?_
          refine x_iconst (pc' := 47) C dX9_hang_46 rfl ?_
          refine x_isub (pc' := 48) C dX9_hang_47 rfl ?_
          refine x_iload_n (pc' := 49) C 3 dX9_hang_48 rfl rfl ?_
          refine x_iload_n (pc' := 50) C 4 dX9_hang_49 rfl rfl ?_
          refine x_aload (pc' := 52) C 5 dX9_hang_50 rfl rfl ?_
          refine x_callV (pc' := 55) (As := [.int (iI (link - 1)), .int (iI (tree : Int)), .int (iI (g : Int)), .ref h]) (rest := []) (q0 := 0) C rfl rfl cv_X9_22_X9 dX9_hang_52 rfl (c_X9_hang_4 l E k lk la_ lb_ lf_ lt_ nl s0 lf lt h hb ha hc sg fb n (m - 1) tree g (link - 1) xs (show nl ≤ 14 from by omega) (show ∀ j_ : Nat, j_ < nl → 0 ≤ lf j_ ∧ lf j_ ≤ 5 from hlf) (show ∀ j_ : Nat, j_ < nl → 0 ≤ lt j_ ∧ lt j_ ≤ 5 from hlt) (show (hg lf lt (m - 1) tree g).length + xs.length ≤ 2002 from by rw [hV, List.length_append] at hcap; omega) (show ((link - 1) + 1).toNat = (m - 1) ∧ -1 ≤ (link - 1) from by omega) (show (m - 1) ≤ 4 ∧ (m - 1) ≤ nl from by omega) (show tree < 16384 from htr) (show g < 262144 from hgg) (show xs.length = n from hlen) (show LsA fb xs from hls) (show xs.Pairwise (· ≤ ·) from hso) (show ∀ x_ ∈ xs, x_ < 16384 from hbd)) mm_X9_hang (hstk := rfl) (hlen := rfl) (hcat := Nat.le_of_ble_eq_true rfl) (isC := [0, 1, 2, 3, 4, 5]) (isR := []) (wr := []) (hC := rfl) (hR := rfl) (hnC := rfl) (hn := rfl) (hdis := by decide) (hR1 := ⟨Nat.le_of_ble_eq_true rfl, Nat.le_of_ble_eq_true rfl⟩) (hcs := ⟨Nat.le_of_ble_eq_true rfl, Nat.le_of_ble_eq_true rfl⟩) (fun v_ w_ hp_ => ?_)
          obtain ⟨n2_52, fb2_52, xs2_52, rfl, rfl, g52_l, g52_s, g52_o, g52_p, g52_b⟩ := hp_
          replace g52_l : xs2_52.length = n2_52 := g52_l
          replace g52_s : LsA fb2_52 xs2_52 := g52_s
          replace g52_o : xs2_52.Pairwise (· ≤ ·) := g52_o
          replace g52_p : xs2_52.Perm (hg lf lt (m - 1) tree g ++ xs) := g52_p
          replace g52_b : ∀ x_ ∈ xs2_52, x_ < 16384 := g52_b
          show Wx _ _ _ _ _ _ _ _ _ _ _ _ _ _ _ _ 55 [(5, .int (iI (5 - ((popc tree : Nat) : Int)))), (0, .ref k), (1, .int (iI link)), (2, .int (iI (tree : Int))), (3, .int (iI (g : Int))), (4, .ref h)] [] [(k, ob 8 [.ref lk, .int (iI s0), .ref lk]), (lk, ob 2 [.ref la_, .ref lb_, .int (iI (nl : Int)), .ref lf_, .ref lt_]), (lf_, ia E 14 lf), (lt_, ia E 14 lt), (h, ob 7 [.ref hb, .ref ha, .ref hc, .int (iI (n2_52 : Int)), .int (iI sg)]), (hb, ia E 2002 fb2_52)]
          refine x_iload_n (pc' := 56) C 4 dX9_hang_55 rfl rfl ?_
          refine x_aload_n (pc' := 57) C 1 dX9_hang_56 rfl rfl ?_
          refine x_get (pc' := 60) C dX9_hang_57 rfl ff_X9_9_8 0 rfl rfl ?_
          refine x_get (pc' := 63) C dX9_hang_60 rfl ff_X9_38_2 1 rfl rfl ?_
          refine x_iload_n (pc' := 64) C 2 dX9_hang_63 rfl rfl ?_
          refine x_iald (pc' := 65) C (m - 1) dX9_hang_64 rfl 2 rfl (by omega) (by omega) (by omega) ?_
          refine x_top (b := .int (iI (((lf (m - 1)).toNat : Nat) : Int))) (by congr 2; omega) ?_
          refine x_callS (pc' := 68) (As := [.int (iI (g : Int)), .int (iI (((lf (m - 1)).toNat : Nat) : Int))]) (rest := []) C cs_X9_42 dX9_hang_65 rfl (c_X9_groupOf l E g ((lf (m - 1)).toNat) (show g < 1000000 from by omega) (show ((lf (m - 1)).toNat) ≤ 5 from by omega)) mm_X9_groupOf (hstk := rfl) (hlen := rfl) (hcat := Nat.le_of_ble_eq_true rfl) (isC := []) (isR := [0, 1, 2, 3, 4, 5]) (wr := [(k, ob 8 [.ref lk, .int (iI s0), .ref lk]), (lk, ob 2 [.ref la_, .ref lb_, .int (iI (nl : Int)), .ref lf_, .ref lt_]), (lf_, ia E 14 lf), (lt_, ia E 14 lt), (h, ob 7 [.ref hb, .ref ha, .ref hc, .int (iI (n2_52 : Int)), .int (iI sg)]), (hb, ia E 2002 fb2_52)]) (hC := rfl) (hR := rfl) (hnC := rfl) (hn := rfl) (hdis := by decide) (hR1 := ⟨Nat.le_of_ble_eq_true rfl, Nat.le_of_ble_eq_true rfl⟩) (hcs := ⟨Nat.le_of_ble_eq_true rfl, Nat.le_of_ble_eq_true rfl⟩) (fun v_ w_ hp_ => ?_)
          obtain ⟨rfl, rfl⟩ := hp_
          show Wx _ _ _ _ _ _ _ _ _ _ _ _ _ _ _ _ 68 [(5, .int (iI (5 - ((popc tree : Nat) : Int)))), (0, .ref k), (1, .int (iI link)), (2, .int (iI (tree : Int))), (3, .int (iI (g : Int))), (4, .ref h)] [.int (iI ((grp g ((lf (m - 1)).toNat) : Nat) : Int))] [(k, ob 8 [.ref lk, .int (iI s0), .ref lk]), (lk, ob 2 [.ref la_, .ref lb_, .int (iI (nl : Int)), .ref lf_, .ref lt_]), (lf_, ia E 14 lf), (lt_, ia E 14 lt), (h, ob 7 [.ref hb, .ref ha, .ref hc, .int (iI (n2_52 : Int)), .int (iI sg)]), (hb, ia E 2002 fb2_52)]
          refine x_istore (pc' := 70) (lv' := [(6, .int (iI ((grp g ((lf (m - 1)).toNat) : Nat) : Int))), (5, .int (iI (5 - ((popc tree : Nat) : Int)))), (0, .ref k), (1, .int (iI link)), (2, .int (iI (tree : Int))), (3, .int (iI (g : Int))), (4, .ref h)]) C dX9_hang_68 rfl (by decide) rfl ?_
          refine x_iload_n (pc' := 71) C 5 dX9_hang_70 rfl rfl ?_
          refine x_aload_n (pc' := 72) C 2 dX9_hang_71 rfl rfl ?_
          refine x_get (pc' := 75) C dX9_hang_72 rfl ff_X9_9_8 0 rfl rfl ?_
          refine x_get (pc' := 78) C dX9_hang_75 rfl ff_X9_46_2 1 rfl rfl ?_
          refine x_iload_n (pc' := 79) C 3 dX9_hang_78 rfl rfl ?_
          refine x_iald (pc' := 80) C (m - 1) dX9_hang_79 rfl 3 rfl (by omega) (by omega) (by omega) ?_
          refine x_top (b := .int (iI (((lt (m - 1)).toNat : Nat) : Int))) (by congr 2; omega) ?_
          refine x_callS (pc' := 83) (As := [.int (iI (g : Int)), .int (iI (((lt (m - 1)).toNat : Nat) : Int))]) (rest := []) C cs_X9_42 dX9_hang_80 rfl (c_X9_groupOf l E g ((lt (m - 1)).toNat) (show g < 1000000 from by omega) (show ((lt (m - 1)).toNat) ≤ 5 from by omega)) mm_X9_groupOf (hstk := rfl) (hlen := rfl) (hcat := Nat.le_of_ble_eq_true rfl) (isC := []) (isR := [0, 1, 2, 3, 4, 5]) (wr := [(k, ob 8 [.ref lk, .int (iI s0), .ref lk]), (lk, ob 2 [.ref la_, .ref lb_, .int (iI (nl : Int)), .ref lf_, .ref lt_]), (lf_, ia E 14 lf), (lt_, ia E 14 lt), (h, ob 7 [.ref hb, .ref ha, .ref hc, .int (iI (n2_52 : Int)), .int (iI sg)]), (hb, ia E 2002 fb2_52)]) (hC := rfl) (hR := rfl) (hnC := rfl) (hn := rfl) (hdis := by decide) (hR1 := ⟨Nat.le_of_ble_eq_true rfl, Nat.le_of_ble_eq_true rfl⟩) (hcs := ⟨Nat.le_of_ble_eq_true rfl, Nat.le_of_ble_eq_true rfl⟩) (fun v_ w_ hp_ => ?_)
          obtain ⟨rfl, rfl⟩ := hp_
          show Wx _ _ _ _ _ _ _ _ _ _ _ _ _ _ _ _ 83 [(6, .int (iI ((grp g ((lf (m - 1)).toNat) : Nat) : Int))), (5, .int (iI (5 - ((popc tree : Nat) : Int)))), (0, .ref k), (1, .int (iI link)), (2, .int (iI (tree : Int))), (3, .int (iI (g : Int))), (4, .ref h)] [.int (iI ((grp g ((lt (m - 1)).toNat) : Nat) : Int))] [(k, ob 8 [.ref lk, .int (iI s0), .ref lk]), (lk, ob 2 [.ref la_, .ref lb_, .int (iI (nl : Int)), .ref lf_, .ref lt_]), (lf_, ia E 14 lf), (lt_, ia E 14 lt), (h, ob 7 [.ref hb, .ref ha, .ref hc, .int (iI (n2_52 : Int)), .int (iI sg)]), (hb, ia E 2002 fb2_52)]
          refine x_istore (pc' := 85) (lv' := [(7, .int (iI ((grp g ((lt (m - 1)).toNat) : Nat) : Int))), (6, .int (iI ((grp g ((lf (m - 1)).toNat) : Nat) : Int))), (5, .int (iI (5 - ((popc tree : Nat) : Int)))), (0, .ref k), (1, .int (iI link)), (2, .int (iI (tree : Int))), (3, .int (iI (g : Int))), (4, .ref h)]) C dX9_hang_83 rfl (by decide) rfl ?_
          refine x_iload (pc' := 87) C 1 dX9_hang_85 rfl rfl ?_
          refine x_iload (pc' := 89) C 0 dX9_hang_87 rfl rfl ?_
          refine x_icmp_eq (pc' := 92) (tgt := 114) C dX9_hang_89 rfl (by decide) (by omega) (by omega) (fun c89 => ?_) (fun c89 => ?_)
          ·
            exact x_vret C hr dX9_hang_114 ⟨n2_52, fb2_52, xs2_52, rfl, rfl, (show xs2_52.length = n2_52 from g52_l), (show LsA fb2_52 xs2_52 from g52_s), (show xs2_52.Pairwise (· ≤ ·) from g52_o), (show xs2_52.Perm (hg lf lt m tree g ++ xs) from two_perm (W := []) (by rw [hV, if_pos (by omega)]) g52_p (List.Perm.refl _)), (show ∀ x_ ∈ xs2_52, x_ < 16384 from g52_b)⟩
          ·
            have hV2 := hV
            rw [if_neg (by omega)] at hV2
            refine x_aload_n (pc' := 93) C 3 dX9_hang_92 rfl rfl ?_
            refine x_iload_n (pc' := 94) C 4 dX9_hang_93 rfl rfl ?_
            refine x_iconst (pc' := 95) C dX9_hang_94 rfl ?_
            refine x_isub (pc' := 96) C dX9_hang_95 rfl ?_
            refine x_iload_n (pc' := 97) C 5 dX9_hang_96 rfl rfl ?_
            refine x_iconst (pc' := 98) C dX9_hang_97 rfl ?_
            refine x_iload_n (pc' := 99) C 4 dX9_hang_98 rfl rfl ?_
            refine x_ishl (pc' := 100) (z := (iI ((2 ^ (m - 1) : Nat) : Int))) C dX9_hang_99 rfl (by rw [show link = ((m - 1 : Nat) : Int) by omega]; exact bt_shl (by omega)) ?_
            refine x_ior (pc' := 101) (z := (iI ((tree ||| 2 ^ (m - 1) : Nat) : Int))) C dX9_hang_100 rfl (bt_or _ _) ?_
            refine x_iload_n (pc' := 102) C 6 dX9_hang_101 rfl rfl ?_
            refine x_iload (pc' := 104) C 1 dX9_hang_102 rfl rfl ?_
            refine x_iload (pc' := 106) C 0 dX9_hang_104 rfl rfl ?_
            refine x_callS (pc' := 109) (As := [.int (iI (g : Int)), .int (iI ((grp g ((lf (m - 1)).toNat) : Nat) : Int)), .int (iI ((grp g ((lt (m - 1)).toNat) : Nat) : Int))]) (rest := [.int (iI ((tree ||| 2 ^ (m - 1) : Nat) : Int)), .int (iI (link - 1)), .ref k]) C cs_X9_49 dX9_hang_106 rfl (c_X9_unite l E g (grp g ((lf (m - 1)).toNat)) (grp g ((lt (m - 1)).toNat)) (show g < 262144 from by omega) (show (grp g ((lf (m - 1)).toNat)) ≤ 7 from by omega) (show (grp g ((lt (m - 1)).toNat)) ≤ 7 from by omega)) mm_X9_unite (hstk := rfl) (hlen := rfl) (hcat := Nat.le_of_ble_eq_true rfl) (isC := []) (isR := [0, 1, 2, 3, 4, 5]) (wr := [(k, ob 8 [.ref lk, .int (iI s0), .ref lk]), (lk, ob 2 [.ref la_, .ref lb_, .int (iI (nl : Int)), .ref lf_, .ref lt_]), (lf_, ia E 14 lf), (lt_, ia E 14 lt), (h, ob 7 [.ref hb, .ref ha, .ref hc, .int (iI (n2_52 : Int)), .int (iI sg)]), (hb, ia E 2002 fb2_52)]) (hC := rfl) (hR := rfl) (hnC := rfl) (hn := rfl) (hdis := by decide) (hR1 := ⟨Nat.le_of_ble_eq_true rfl, Nat.le_of_ble_eq_true rfl⟩) (hcs := ⟨Nat.le_of_ble_eq_true rfl, Nat.le_of_ble_eq_true rfl⟩) (fun v_ w_ hp_ => ?_)
            obtain ⟨rfl, rfl⟩ := hp_
            show Wx _ _ _ _ _ _ _ _ _ _ _ _ _ _ _ _ 109 [(7, .int (iI ((grp g ((lt (m - 1)).toNat) : Nat) : Int))), (6, .int (iI ((grp g ((lf (m - 1)).toNat) : Nat) : Int))), (5, .int (iI (5 - ((popc tree : Nat) : Int)))), (0, .ref k), (1, .int (iI link)), (2, .int (iI (tree : Int))), (3, .int (iI (g : Int))), (4, .ref h)] [.int (iI ((unt g (grp g ((lf (m - 1)).toNat)) (grp g ((lt (m - 1)).toNat)) 6 : Nat) : Int)), .int (iI ((tree ||| 2 ^ (m - 1) : Nat) : Int)), .int (iI (link - 1)), .ref k] [(k, ob 8 [.ref lk, .int (iI s0), .ref lk]), (lk, ob 2 [.ref la_, .ref lb_, .int (iI (nl : Int)), .ref lf_, .ref lt_]), (lf_, ia E 14 lf), (lt_, ia E 14 lt), (h, ob 7 [.ref hb, .ref ha, .ref hc, .int (iI (n2_52 : Int)), .int (iI sg)]), (hb, ia E 2002 fb2_52)]
            refine x_aload (pc' := 111) C 7 dX9_hang_109 rfl rfl ?_
            refine x_callV (pc' := 114) (As := [.int (iI (link - 1)), .int (iI ((tree ||| 2 ^ (m - 1) : Nat) : Int)), .int (iI ((unt g (grp g ((lf (m - 1)).toNat)) (grp g ((lt (m - 1)).toNat)) 6 : Nat) : Int)), .ref h]) (rest := []) (q0 := 0) C rfl rfl cv_X9_22_X9 dX9_hang_111 rfl (c_X9_hang_4 l E k lk la_ lb_ lf_ lt_ nl s0 lf lt h hb ha hc sg fb2_52 n2_52 (m - 1) (tree ||| 2 ^ (m - 1)) (unt g (grp g ((lf (m - 1)).toNat)) (grp g ((lt (m - 1)).toNat)) 6) (link - 1) xs2_52 (show nl ≤ 14 from by omega) (show ∀ j_ : Nat, j_ < nl → 0 ≤ lf j_ ∧ lf j_ ≤ 5 from hlf) (show ∀ j_ : Nat, j_ < nl → 0 ≤ lt j_ ∧ lt j_ ≤ 5 from hlt) (show (hg lf lt (m - 1) (tree ||| 2 ^ (m - 1)) (unt g (grp g ((lf (m - 1)).toNat)) (grp g ((lt (m - 1)).toNat)) 6)).length + xs2_52.length ≤ 2002 from by have hq_ := g52_p.length_eq; rw [List.length_append] at hq_; rw [hV2, List.length_append] at hcap; omega) (show ((link - 1) + 1).toNat = (m - 1) ∧ -1 ≤ (link - 1) from by omega) (show (m - 1) ≤ 4 ∧ (m - 1) ≤ nl from by omega) (show (tree ||| 2 ^ (m - 1)) < 16384 from or_bd (N := 14) htr (by omega)) (show (unt g (grp g ((lf (m - 1)).toNat)) (grp g ((lt (m - 1)).toNat)) 6) < 262144 from unt_bd (g := g) hgg (grp_le _ _) (grp_le _ _) 6 (by decide)) (show xs2_52.length = n2_52 from g52_l) (show LsA fb2_52 xs2_52 from g52_s) (show xs2_52.Pairwise (· ≤ ·) from g52_o) (show ∀ x_ ∈ xs2_52, x_ < 16384 from g52_b)) mm_X9_hang (hstk := rfl) (hlen := rfl) (hcat := Nat.le_of_ble_eq_true rfl) (isC := [0, 1, 2, 3, 4, 5]) (isR := []) (wr := []) (hC := rfl) (hR := rfl) (hnC := rfl) (hn := rfl) (hdis := by decide) (hR1 := ⟨Nat.le_of_ble_eq_true rfl, Nat.le_of_ble_eq_true rfl⟩) (hcs := ⟨Nat.le_of_ble_eq_true rfl, Nat.le_of_ble_eq_true rfl⟩) (fun v_ w_ hp_ => ?_)
            obtain ⟨n2_111, fb2_111, xs2_111, rfl, rfl, g111_l, g111_s, g111_o, g111_p, g111_b⟩ := hp_
            replace g111_l : xs2_111.length = n2_111 := g111_l
            replace g111_s : LsA fb2_111 xs2_111 := g111_s
            replace g111_o : xs2_111.Pairwise (· ≤ ·) := g111_o
            replace g111_p : xs2_111.Perm (hg lf lt (m - 1) (tree ||| 2 ^ (m - 1)) (unt g (grp g ((lf (m - 1)).toNat)) (grp g ((lt (m - 1)).toNat)) 6) ++ xs2_52) := g111_p
            replace g111_b : ∀ x_ ∈ xs2_111, x_ < 16384 := g111_b
            show Wx _ _ _ _ _ _ _ _ _ _ _ _ _ _ _ _ 114 [(7, .int (iI ((grp g ((lt (m - 1)).toNat) : Nat) : Int))), (6, .int (iI ((grp g ((lf (m - 1)).toNat) : Nat) : Int))), (5, .int (iI (5 - ((popc tree : Nat) : Int)))), (0, .ref k), (1, .int (iI link)), (2, .int (iI (tree : Int))), (3, .int (iI (g : Int))), (4, .ref h)] [] [(k, ob 8 [.ref lk, .int (iI s0), .ref lk]), (lk, ob 2 [.ref la_, .ref lb_, .int (iI (nl : Int)), .ref lf_, .ref lt_]), (lf_, ia E 14 lf), (lt_, ia E 14 lt), (h, ob 7 [.ref hb, .ref ha, .ref hc, .int (iI (n2_111 : Int)), .int (iI sg)]), (hb, ia E 2002 fb2_111)]
            exact x_vret C hr dX9_hang_114 ⟨n2_111, fb2_111, xs2_111, rfl, rfl, (show xs2_111.length = n2_111 from g111_l), (show LsA fb2_111 xs2_111 from g111_s), (show xs2_111.Pairwise (· ≤ ·) from g111_o), (show xs2_111.Perm (hg lf lt m tree g ++ xs) from two_perm hV2 g52_p g111_p), (show ∀ x_ ∈ xs2_111, x_ < 16384 from g111_b)⟩
        ·
          exact x_vret C hr dX9_hang_43 ⟨n, fb, xs, rfl, rfl, (show xs.length = n from hlen), (show LsA fb xs from hls), (show xs.Pairwise (· ≤ ·) from hso), (show xs.Perm (hg lf lt m tree g ++ xs) from by rw [hg_0 (by omega) (by omega)]; exact List.Perm.refl _), (show ∀ x_ ∈ xs, x_ < 16384 from hbd)⟩
  ·
    refine x_aload (pc' := 15) C 5 dX9_hang_13 rfl rfl ?_
    refine x_iload_n (pc' := 16) C 3 dX9_hang_15 rfl rfl ?_
    refine x_callV (pc' := 19) (As := [.int (iI (tree : Int))]) (rest := []) (q0 := 0) C rfl rfl cv_X9_32_X8 dX9_hang_16 rfl (c_X8_insert l E h hb ha hc n tree sg fb xs (show n < 2002 from by rw [hg_5 (show popc tree = 5 by omega), List.length_singleton] at hcap; omega) (show tree < 1000000 from by omega) (show xs.length = n from hlen) (show LsA fb xs from hls) (show xs.Pairwise (· ≤ ·) from hso) (show ∀ j (h : j < xs.length), xs[j] < 1000000 from get_bd (fun x_ hx_ => Nat.lt_trans (hbd x_ hx_) (by decide)))) mm_X8_insert (hstk := rfl) (hlen := rfl) (hcat := Nat.le_of_ble_eq_true rfl) (isC := [4, 5]) (isR := [0, 1, 2, 3]) (wr := [(k, ob 8 [.ref lk, .int (iI s0), .ref lk]), (lk, ob 2 [.ref la_, .ref lb_, .int (iI (nl : Int)), .ref lf_, .ref lt_]), (lf_, ia E 14 lf), (lt_, ia E 14 lt)]) (hC := rfl) (hR := rfl) (hnC := rfl) (hn := rfl) (hdis := by decide) (hR1 := ⟨Nat.le_of_ble_eq_true rfl, Nat.le_of_ble_eq_true rfl⟩) (hcs := ⟨Nat.le_of_ble_eq_true rfl, Nat.le_of_ble_eq_true rfl⟩) (fun v_ w_ hp_ => ?_)
    obtain ⟨fb2_16, xs2_16, rfl, rfl, g16_l, g16_s, g16_o, g16_p⟩ := hp_
    replace g16_l : xs2_16.length = n + 1 := g16_l
    replace g16_s : LsA fb2_16 xs2_16 := g16_s
    replace g16_o : xs2_16.Pairwise (· ≤ ·) := g16_o
    replace g16_p : xs2_16.Perm (tree :: xs) := g16_p
    show Wx _ _ _ _ _ _ _ _ _ _ _ _ _ _ _ _ 19 [(5, .int (iI (5 - ((popc tree : Nat) : Int)))), (0, .ref k), (1, .int (iI link)), (2, .int (iI (tree : Int))), (3, .int (iI (g : Int))), (4, .ref h)] [] [(k, ob 8 [.ref lk, .int (iI s0), .ref lk]), (lk, ob 2 [.ref la_, .ref lb_, .int (iI (nl : Int)), .ref lf_, .ref lt_]), (lf_, ia E 14 lf), (lt_, ia E 14 lt), (h, ob 7 [.ref hb, .ref ha, .ref hc, .int (iI ((n + 1 : Nat) : Int)), .int (iI sg)]), (hb, ia E 2002 fb2_16)]
    exact x_vret C hr dX9_hang_19 ⟨(n + 1), fb2_16, xs2_16, rfl, rfl, (show xs2_16.length = (n + 1) from g16_l), (show LsA fb2_16 xs2_16 from g16_s), (show xs2_16.Pairwise (· ≤ ·) from g16_o), (show xs2_16.Perm (hg lf lt m tree g ++ xs) from by rw [hg_5 (show popc tree = 5 by omega)]; exact g16_p), (show ∀ x_ ∈ xs2_16, x_ < 16384 from mem_bd (L := [tree]) g16_p (one_bd htr) hbd)⟩

set_option maxHeartbeats 4000000 in
set_option maxRecDepth 100000 in
theorem c_X9_hang_6 (l : Launch) (E : EV) (k : Nat) (lk : Nat) (la_ : Nat) (lb_ : Nat) (lf_ : Nat) (lt_ : Nat) (nl : Nat) (s0 : Int) (lf : Nat → Int) (lt : Nat → Int) (h : Nat) (hb : Nat) (ha : Nat) (hc : Nat) (sg : Int) (fb : Nat → Int) (n : Nat) (m : Nat) (tree : Nat) (g : Nat) (link : Int) (xs : List Nat) (hnl : nl ≤ 14) (hlf : ∀ j_ : Nat, j_ < nl → 0 ≤ lf j_ ∧ lf j_ ≤ 5) (hlt : ∀ j_ : Nat, j_ < nl → 0 ≤ lt j_ ∧ lt j_ ≤ 5) (hcap : (hg lf lt m tree g).length + xs.length ≤ 2002) (hm : (link + 1).toNat = m ∧ -1 ≤ link) (hmL : m ≤ 6 ∧ m ≤ nl) (htr : tree < 16384) (hgg : g < 262144) (hlen : xs.length = n) (hls : LsA fb xs) (hso : xs.Pairwise (· ≤ ·)) (hbd : ∀ x_ ∈ xs, x_ < 16384) : MC l E yX9_hang cX9_hang 8 (none) ({ frames := 7, cells := 0, slots := 0, locals := 184 }) [.ref k, .int (iI link), .int (iI (tree : Int)), .int (iI (g : Int)), .ref h] [(k, ob 8 [.ref lk, .int (iI s0), .ref lk]), (lk, ob 2 [.ref la_, .ref lb_, .int (iI (nl : Int)), .ref lf_, .ref lt_]), (lf_, ia E 14 lf), (lt_, ia E 14 lt), (h, ob 7 [.ref hb, .ref ha, .ref hc, .int (iI (n : Int)), .int (iI sg)]), (hb, ia E 2002 fb)] (fun v_ w_ => ∃ (n2 : Nat) (fb2 : Nat → Int) (xs2 : List Nat), v_ = none ∧ w_ = [(k, ob 8 [.ref lk, .int (iI s0), .ref lk]), (lk, ob 2 [.ref la_, .ref lb_, .int (iI (nl : Int)), .ref lf_, .ref lt_]), (lf_, ia E 14 lf), (lt_, ia E 14 lt), (h, ob 7 [.ref hb, .ref ha, .ref hc, .int (iI (n2 : Int)), .int (iI sg)]), (hb, ia E 2002 fb2)] ∧ (xs2.length = n2) ∧ (LsA fb2 xs2) ∧ (xs2.Pairwise (· ≤ ·)) ∧ (xs2.Perm (hg lf lt m tree g ++ xs)) ∧ (∀ x_ ∈ xs2, x_ < 16384)) := by
  refine MC.of (by decide +kernel) (Nat.le_of_ble_eq_true rfl) ?_
  intro p_ e_ s_ m_ args_ below_ meth_ c_ A_ C hr hnm
  have C : Cx p_ s_ m_ args_ meth_ c_ E A_ 8 cX9_hang RX9 := C
  have hpc := popc_le tree
  show Wx _ _ _ _ _ _ _ _ _ _ _ _ _ _ _ _ 0 [(0, .ref k), (1, .int (iI link)), (2, .int (iI (tree : Int))), (3, .int (iI (g : Int))), (4, .ref h)] [] [(k, ob 8 [.ref lk, .int (iI s0), .ref lk]), (lk, ob 2 [.ref la_, .ref lb_, .int (iI (nl : Int)), .ref lf_, .ref lt_]), (lf_, ia E 14 lf), (lt_, ia E 14 lt), (h, ob 7 [.ref hb, .ref ha, .ref hc, .int (iI (n : Int)), .int (iI sg)]), (hb, ia E 2002 fb)]
  refine x_iconst (pc' := 1) C dX9_hang_0 rfl ?_
  refine x_iload_n (pc' := 2) C 2 dX9_hang_1 rfl rfl ?_
  refine x_callS (pc' := 5) (As := [.int (iI (tree : Int))]) (rest := [.int (iI 5)]) C cs_X9_26 dX9_hang_2 rfl (c_J6_bitCount_0f7a4 l E tree (show tree < 1000000 from by omega)) mm_J6_bitCount_0f7a4 (hstk := rfl) (hlen := rfl) (hcat := Nat.le_of_ble_eq_true rfl) (isC := []) (isR := [0, 1, 2, 3, 4, 5]) (wr := [(k, ob 8 [.ref lk, .int (iI s0), .ref lk]), (lk, ob 2 [.ref la_, .ref lb_, .int (iI (nl : Int)), .ref lf_, .ref lt_]), (lf_, ia E 14 lf), (lt_, ia E 14 lt), (h, ob 7 [.ref hb, .ref ha, .ref hc, .int (iI (n : Int)), .int (iI sg)]), (hb, ia E 2002 fb)]) (hC := rfl) (hR := rfl) (hnC := rfl) (hn := rfl) (hdis := by decide) (hR1 := ⟨Nat.le_of_ble_eq_true rfl, Nat.le_of_ble_eq_true rfl⟩) (hcs := ⟨Nat.le_of_ble_eq_true rfl, Nat.le_of_ble_eq_true rfl⟩) (fun v_ w_ hp_ => ?_)
  obtain ⟨rfl, rfl⟩ := hp_
  show Wx _ _ _ _ _ _ _ _ _ _ _ _ _ _ _ _ 5 [(0, .ref k), (1, .int (iI link)), (2, .int (iI (tree : Int))), (3, .int (iI (g : Int))), (4, .ref h)] [.int (iI ((popc tree : Nat) : Int)), .int (iI 5)] [(k, ob 8 [.ref lk, .int (iI s0), .ref lk]), (lk, ob 2 [.ref la_, .ref lb_, .int (iI (nl : Int)), .ref lf_, .ref lt_]), (lf_, ia E 14 lf), (lt_, ia E 14 lt), (h, ob 7 [.ref hb, .ref ha, .ref hc, .int (iI (n : Int)), .int (iI sg)]), (hb, ia E 2002 fb)]
  refine x_isub (pc' := 6) C dX9_hang_5 rfl ?_
  refine x_istore (pc' := 8) (lv' := [(5, .int (iI (5 - ((popc tree : Nat) : Int)))), (0, .ref k), (1, .int (iI link)), (2, .int (iI (tree : Int))), (3, .int (iI (g : Int))), (4, .ref h)]) C dX9_hang_6 rfl (by decide) rfl ?_
  refine x_iload (pc' := 10) C 0 dX9_hang_8 rfl rfl ?_
  refine x_if_ne (pc' := 13) (tgt := 20) C dX9_hang_10 rfl (by decide) (by omega) (fun c10 => ?_) (fun c10 => ?_)
  ·
    refine x_iload_n (pc' := 21) C 2 dX9_hang_20 rfl rfl ?_
    refine x_if_lt (pc' := 24) (tgt := 43) C dX9_hang_21 rfl (by decide) (by omega) (fun c21 => ?_) (fun c21 => ?_)
    ·
      exact x_vret C hr dX9_hang_43 ⟨n, fb, xs, rfl, rfl, (show xs.length = n from hlen), (show LsA fb xs from hls), (show xs.Pairwise (· ≤ ·) from hso), (show xs.Perm (hg lf lt m tree g ++ xs) from by rw [hg_0 (by omega) (by omega)]; exact List.Perm.refl _), (show ∀ x_ ∈ xs, x_ < 16384 from hbd)⟩
    ·
      refine x_iload_n (pc' := 25) C 2 dX9_hang_24 rfl rfl ?_
      refine x_aload_n (pc' := 26) C 1 dX9_hang_25 rfl rfl ?_
      refine x_get (pc' := 29) C dX9_hang_26 rfl ff_X9_9_8 0 rfl rfl ?_
      refine x_get (pc' := 32) C dX9_hang_29 rfl ff_X9_15_2 1 rfl rfl ?_
      refine x_icmp_ge (pc' := 35) (tgt := 43) C dX9_hang_32 rfl (by decide) (by omega) (by omega) (fun c32 => ?_) (fun c32 => ?_)
      ·
        exact absurd c32 (by omega)
      ·
        refine x_iload_n (pc' := 36) C 2 dX9_hang_35 rfl rfl ?_
        refine x_iconst (pc' := 37) C dX9_hang_36 rfl ?_
        refine x_iadd (pc' := 38) C dX9_hang_37 rfl ?_
        refine x_iload (pc' := 40) C 0 dX9_hang_38 rfl rfl ?_
        refine x_icmp_ge (pc' := 43) (tgt := 44) C dX9_hang_40 rfl (by decide) (by omega) (by omega) (fun c40 => ?_) (fun c40 => ?_)
        ·
          have hV := hg_s (lf := lf) (lt := lt) (m := m) (tree := tree) (g := g) (by omega) (by omega) (by omega)
          have hf1 := hlf (m - 1) (by omega)
          have ht1 := hlt (m - 1) (by omega)
          have hga := grp_le g (lf (m - 1)).toNat
          have hgb := grp_le g (lt (m - 1)).toNat
          refine x_aload_n (pc' := 45) C 1 dX9_hang_44 rfl rfl ?_
          refine x_iload_n (pc' := 46) C 2 dX9_hang_45 rfl rfl ?_
          refine x_iconst (pc' := 47) C dX9_hang_46 rfl ?_
          refine x_isub (pc' := 48) C dX9_hang_47 rfl ?_
          refine x_iload_n (pc' := 49) C 3 dX9_hang_48 rfl rfl ?_
          refine x_iload_n (pc' := 50) C 4 dX9_hang_49 rfl rfl ?_
          refine x_aload (pc' := 52) C 5 dX9_hang_50 rfl rfl ?_
          refine x_callV (pc' := 55) (As := [.int (iI (link - 1)), .int (iI (tree : Int)), .int (iI (g : Int)), .ref h]) (rest := []) (q0 := 0) C rfl rfl cv_X9_22_X9 dX9_hang_52 rfl (c_X9_hang_5 l E k lk la_ lb_ lf_ lt_ nl s0 lf lt h hb ha hc sg fb n (m - 1) tree g (link - 1) xs (show nl ≤ 14 from by omega) (show ∀ j_ : Nat, j_ < nl → 0 ≤ lf j_ ∧ lf j_ ≤ 5 from hlf) (show ∀ j_ : Nat, j_ < nl → 0 ≤ lt j_ ∧ lt j_ ≤ 5 from hlt) (show (hg lf lt (m - 1) tree g).length + xs.length ≤ 2002 from by rw [hV, List.length_append] at hcap; omega) (show ((link - 1) + 1).toNat = (m - 1) ∧ -1 ≤ (link - 1) from by omega) (show (m - 1) ≤ 5 ∧ (m - 1) ≤ nl from by omega) (show tree < 16384 from htr) (show g < 262144 from hgg) (show xs.length = n from hlen) (show LsA fb xs from hls) (show xs.Pairwise (· ≤ ·) from hso) (show ∀ x_ ∈ xs, x_ < 16384 from hbd)) mm_X9_hang (hstk := rfl) (hlen := rfl) (hcat := Nat.le_of_ble_eq_true rfl) (isC := [0, 1, 2, 3, 4, 5]) (isR := []) (wr := []) (hC := rfl) (hR := rfl) (hnC := rfl) (hn := rfl) (hdis := by decide) (hR1 := ⟨Nat.le_of_ble_eq_true rfl, Nat.le_of_ble_eq_true rfl⟩) (hcs := ⟨Nat.le_of_ble_eq_true rfl, Nat.le_of_ble_eq_true rfl⟩) (fun v_ w_ hp_ => ?_)
          obtain ⟨n2_52, fb2_52, xs2_52, rfl, rfl, g52_l, g52_s, g52_o, g52_p, g52_b⟩ := hp_
          replace g52_l : xs2_52.length = n2_52 := g52_l
          replace g52_s : LsA fb2_52 xs2_52 := g52_s
          replace g52_o : xs2_52.Pairwise (· ≤ ·) := g52_o
          replace g52_p : xs2_52.Perm (hg lf lt (m - 1) tree g ++ xs) := g52_p
          replace g52_b : ∀ x_ ∈ xs2_52, x_ < 16384 := g52_b
          show Wx _ _ _ _ _ _ _ _ _ _ _ _ _ _ _ _ 55 [(5, .int (iI (5 - ((popc tree : Nat) : Int)))), (0, .ref k), (1, .int (iI link)), (2, .int (iI (tree : Int))), (3, .int (iI (g : Int))), (4, .ref h)] [] [(k, ob 8 [.ref lk, .int (iI s0), .ref lk]), (lk, ob 2 [.ref la_, .ref lb_, .int (iI (nl : Int)), .ref lf_, .ref lt_]), (lf_, ia E 14 lf), (lt_, ia E 14 lt), (h, ob 7 [.ref hb, .ref ha, .ref hc, .int (iI (n2_52 : Int)), .int (iI sg)]), (hb, ia E 2002 fb2_52)]
          refine x_iload_n (pc' := 56) C 4 dX9_hang_55 rfl rfl ?_
          refine x_aload_n (pc' := 57) C 1 dX9_hang_56 rfl rfl ?_
          refine x_get (pc' := 60) C dX9_hang_57 rfl ff_X9_9_8 0 rfl rfl ?_
          refine x_get (pc' := 63) C dX9_hang_60 rfl ff_X9_38_2 1 rfl rfl ?_
          refine x_iload_n (pc' := 64) C 2 dX9_hang_63 rfl rfl ?_
          refine x_iald (pc' := 65) C (m - 1) dX9_hang_64 rfl 2 rfl (by omega) (by omega) (by omega) ?_
          refine x_top (b := .int (iI (((lf (m - 1)).toNat : Nat) : Int))) (by congr 2; omega) ?_
          refine x_callS (pc' := 68) (As := [.int (iI (g : Int)), .int (iI (((lf (m - 1)).toNat : Nat) : Int))]) (rest := []) C cs_X9_42 dX9_hang_65 rfl (c_X9_groupOf l E g ((lf (m - 1)).toNat) (show g < 1000000 from by omega) (show ((lf (m - 1)).toNat) ≤ 5 from by omega)) mm_X9_groupOf (hstk := rfl) (hlen := rfl) (hcat := Nat.le_of_ble_eq_true rfl) (isC := []) (isR := [0, 1, 2, 3, 4, 5]) (wr := [(k, ob 8 [.ref lk, .int (iI s0), .ref lk]), (lk, ob 2 [.ref la_, .ref lb_, .int (iI (nl : Int)), .ref lf_, .ref lt_]), (lf_, ia E 14 lf), (lt_, ia E 14 lt), (h, ob 7 [.ref hb, .ref ha, .ref hc, .int (iI (n2_52 : Int)), .int (iI sg)]), (hb, ia E 2002 fb2_52)]) (hC := rfl) (hR := rfl) (hnC := rfl) (hn := rfl) (hdis := by decide) (hR1 := ⟨Nat.le_of_ble_eq_true rfl, Nat.le_of_ble_eq_true rfl⟩) (hcs := ⟨Nat.le_of_ble_eq_true rfl, Nat.le_of_ble_eq_true rfl⟩) (fun v_ w_ hp_ => ?_)
          obtain ⟨rfl, rfl⟩ := hp_
          show Wx _ _ _ _ _ _ _ _ _ _ _ _ _ _ _ _ 68 [(5, .int (iI (5 - ((popc tree : Nat) : Int)))), (0, .ref k), (1, .int (iI link)), (2, .int (iI (tree : Int))), (3, .int (iI (g : Int))), (4, .ref h)] [.int (iI ((grp g ((lf (m - 1)).toNat) : Nat) : Int))] [(k, ob 8 [.ref lk, .int (iI s0), .ref lk]), (lk, ob 2 [.ref la_, .ref lb_, .int (iI (nl : Int)), .ref lf_, .ref lt_]), (lf_, ia E 14 lf), (lt_, ia E 14 lt), (h, ob 7 [.ref hb, .ref ha, .ref hc, .int (iI (n2_52 : Int)), .int (iI sg)]), (hb, ia E 2002 fb2_52)]
          refine x_istore (pc' := 70) (lv' := [(6, .int (iI ((grp g ((lf (m - 1)).toNat) : Nat) : Int))), (5, .int (iI (5 - ((popc tree : Nat) : Int)))), (0, .ref k), (1, .int (iI link)), (2, .int (iI (tree : Int))), (3, .int (iI (g : Int))), (4, .ref h)]) C dX9_hang_68 rfl (by decide) rfl ?_
          refine x_iload_n (pc' := 71) C 5 dX9_hang_70 rfl rfl ?_
          refine x_aload_n (pc' := 72) C 2 dX9_hang_71 rfl rfl ?_
          refine x_get (pc' := 75) C dX9_hang_72 rfl ff_X9_9_8 0 rfl rfl ?_
          refine x_get (pc' := 78) C dX9_hang_75 rfl ff_X9_46_2 1 rfl rfl ?_
          refine x_iload_n (pc' := 79) C 3 dX9_hang_78 rfl rfl ?_
          refine x_iald (pc' := 80) C (m - 1) dX9_hang_79 rfl 3 rfl (by omega) (by omega) (by omega) ?_
          refine x_top (b := .int (iI (((lt (m - 1)).toNat : Nat) : Int))) (by congr 2; omega) ?_
          refine x_callS (pc' := 83) (As := [.int (iI (g : Int)), .int (iI (((lt (m - 1)).toNat : Nat) : Int))]) (rest := []) C cs_X9_42 dX9_hang_80 rfl (c_X9_groupOf l E g ((lt (m - 1)).toNat) (show g < 1000000 from by omega) (show ((lt (m - 1)).toNat) ≤ 5 from by omega)) mm_X9_groupOf (hstk := rfl) (hlen := rfl) (hcat := Nat.le_of_ble_eq_true rfl) (isC := []) (isR := [0, 1, 2, 3, 4, 5]) (wr := [(k, ob 8 [.ref lk, .int (iI s0), .ref lk]), (lk, ob 2 [.ref la_, .ref lb_, .int (iI (nl : Int)), .ref lf_, .ref lt_]), (lf_, ia E 14 lf), (lt_, ia E 14 lt), (h, ob 7 [.ref hb, .ref ha, .ref hc, .int (iI (n2_52 : Int)), .int (iI sg)]), (hb, ia E 2002 fb2_52)]) (hC := rfl) (hR := rfl) (hnC := rfl) (hn := rfl) (hdis := by decide) (hR1 := ⟨Nat.le_of_ble_eq_true rfl, Nat.le_of_ble_eq_true rfl⟩) (hcs := ⟨Nat.le_of_ble_eq_true rfl, Nat.le_of_ble_eq_true rfl⟩) (fun v_ w_ hp_ => ?_)
          obtain ⟨rfl, rfl⟩ := hp_
          show Wx _ _ _ _ _ _ _ _ _ _ _ _ _ _ _ _ 83 [(6, .int (iI ((grp g ((lf (m - 1)).toNat) : Nat) : Int))), (5, .int (iI (5 - ((popc tree : Nat) : Int)))), (0, .ref k), (1, .int (iI link)), (2, .int (iI (tree : Int))), (3, .int (iI (g : Int))), (4, .ref h)] [.int (iI ((grp g ((lt (m - 1)).toNat) : Nat) : Int))] [(k, ob 8 [.ref lk, .int (iI s0), .ref lk]), (lk, ob 2 [.ref la_, .ref lb_, .int (iI (nl : Int)), .ref lf_, .ref lt_]), (lf_, ia E 14 lf), (lt_, ia E 14 lt), (h, ob 7 [.ref hb, .ref ha, .ref hc, .int (iI (n2_52 : Int)), .int (iI sg)]), (hb, ia E 2002 fb2_52)]
          refine x_istore (pc' := 85) (lv' := [(7, .int (iI ((grp g ((lt (m - 1)).toNat) : Nat) : Int))), (6, .int (iI ((grp g ((lf (m - 1)).toNat) : Nat) : Int))), (5, .int (iI (5 - ((popc tree : Nat) : Int)))), (0, .ref k), (1, .int (iI link)), (2, .int (iI (tree : Int))), (3, .int (iI (g : Int))), (4, .ref h)]) C dX9_hang_83 rfl (by decide) rfl ?_
          refine x_iload (pc' := 87) C 1 dX9_hang_85 rfl rfl ?_
          refine x_iload (pc' := 89) C 0 dX9_hang_87 rfl rfl ?_
          refine x_icmp_eq (pc' := 92) (tgt := 114) C dX9_hang_89 rfl (by decide) (by omega) (by omega) (fun c89 => ?_) (fun c89 => ?_)
          ·
            exact x_vret C hr dX9_hang_114 ⟨n2_52, fb2_52, xs2_52, rfl, rfl, (show xs2_52.length = n2_52 from g52_l), (show LsA fb2_52 xs2_52 from g52_s), (show xs2_52.Pairwise (· ≤ ·) from g52_o), (show xs2_52.Perm (hg lf lt m tree g ++ xs) from two_perm (W := []) (by rw [hV, if_pos (by omega)]) g52_p (List.Perm.refl _)), (show ∀ x_ ∈ xs2_52, x_ < 16384 from g52_b)⟩
          ·
            have hV2 := hV
            rw [if_neg (by omega)] at hV2
            refine x_aload_n (pc' := 93) C 3 dX9_hang_92 rfl rfl ?_
            refine x_iload_n (pc' := 94) C 4 dX9_hang_93 rfl rfl ?_
            refine x_iconst (pc' := 95) C dX9_hang_94 rfl ?_
            refine x_isub (pc' := 96) C dX9_hang_95 rfl ?_
            refine x_iload_n (pc' := 97) C 5 dX9_hang_96 rfl rfl ?_
            refine x_iconst (pc' := 98) C dX9_hang_97 rfl ?_
            refine x_iload_n (pc' := 99) C 4 dX9_hang_98 rfl rfl ?_
            refine x_ishl (pc' := 100) (z := (iI ((2 ^ (m - 1) : Nat) : Int))) C dX9_hang_99 rfl (by rw [show link = ((m - 1 : Nat) : Int) by omega]; exact bt_shl (by omega)) ?_
            refine x_ior (pc' := 101) (z := (iI ((tree ||| 2 ^ (m - 1) : Nat) : Int))) C dX9_hang_100 rfl (bt_or _ _) ?_
            refine x_iload_n (pc' := 102) C 6 dX9_hang_101 rfl rfl ?_
            refine x_iload (pc' := 104) C 1 dX9_hang_102 rfl rfl ?_
            refine x_iload (pc' := 106) C 0 dX9_hang_104 rfl rfl ?_
            refine x_callS (pc' := 109) (As := [.int (iI (g : Int)), .int (iI ((grp g ((lf (m - 1)).toNat) : Nat) : Int)), .int (iI ((grp g ((lt (m - 1)).toNat) : Nat) : Int))]) (rest := [.int (iI ((tree ||| 2 ^ (m - 1) : Nat) : Int)), .int (iI (link - 1)), .ref k]) C cs_X9_49 dX9_hang_106 rfl (c_X9_unite l E g (grp g ((lf (m - 1)).toNat)) (grp g ((lt (m - 1)).toNat)) (show g < 262144 from by omega) (show (grp g ((lf (m - 1)).toNat)) ≤ 7 from by omega) (show (grp g ((lt (m - 1)).toNat)) ≤ 7 from by omega)) mm_X9_unite (hstk := rfl) (hlen := rfl) (hcat := Nat.le_of_ble_eq_true rfl) (isC := []) (isR := [0, 1, 2, 3, 4, 5]) (wr := [(k, ob 8 [.ref lk, .int (iI s0), .ref lk]), (lk, ob 2 [.ref la_, .ref lb_, .int (iI (nl : Int)), .ref lf_, .ref lt_]), (lf_, ia E 14 lf), (lt_, ia E 14 lt), (h, ob 7 [.ref hb, .ref ha, .ref hc, .int (iI (n2_52 : Int)), .int (iI sg)]), (hb, ia E 2002 fb2_52)]) (hC := rfl) (hR := rfl) (hnC := rfl) (hn := rfl) (hdis := by decide) (hR1 := ⟨Nat.le_of_ble_eq_true rfl, Nat.le_of_ble_eq_true rfl⟩) (hcs := ⟨Nat.le_of_ble_eq_true rfl, Nat.le_of_ble_eq_true rfl⟩) (fun v_ w_ hp_ => ?_)
            obtain ⟨rfl, rfl⟩ := hp_
            show Wx _ _ _ _ _ _ _ _ _ _ _ _ _ _ _ _ 109 [(7, .int (iI ((grp g ((lt (m - 1)).toNat) : Nat) : Int))), (6, .int (iI ((grp g ((lf (m - 1)).toNat) : Nat) : Int))), (5, .int (iI (5 - ((popc tree : Nat) : Int)))), (0, .ref k), (1, .int (iI link)), (2, .int (iI (tree : Int))), (3, .int (iI (g : Int))), (4, .ref h)] [.int (iI ((unt g (grp g ((lf (m - 1)).toNat)) (grp g ((lt (m - 1)).toNat)) 6 : Nat) : Int)), .int (iI ((tree ||| 2 ^ (m - 1) : Nat) : Int)), .int (iI (link - 1)), .ref k] [(k, ob 8 [.ref lk, .int (iI s0), .ref lk]), (lk, ob 2 [.ref la_, .ref lb_, .int (iI (nl : Int)), .ref lf_, .ref lt_]), (lf_, ia E 14 lf), (lt_, ia E 14 lt), (h, ob 7 [.ref hb, .ref ha, .ref hc, .int (iI (n2_52 : Int)), .int (iI sg)]), (hb, ia E 2002 fb2_52)]
            refine x_aload (pc' := 111) C 7 dX9_hang_109 rfl rfl ?_
            refine x_callV (pc' := 114) (As := [.int (iI (link - 1)), .int (iI ((tree ||| 2 ^ (m - 1) : Nat) : Int)), .int (iI ((unt g (grp g ((lf (m - 1)).toNat)) (grp g ((lt (m - 1)).toNat)) 6 : Nat) : Int)), .ref h]) (rest := []) (q0 := 0) C rfl rfl cv_X9_22_X9 dX9_hang_111 rfl (c_X9_hang_5 l E k lk la_ lb_ lf_ lt_ nl s0 lf lt h hb ha hc sg fb2_52 n2_52 (m - 1) (tree ||| 2 ^ (m - 1)) (unt g (grp g ((lf (m - 1)).toNat)) (grp g ((lt (m - 1)).toNat)) 6) (link - 1) xs2_52 (show nl ≤ 14 from by omega) (show ∀ j_ : Nat, j_ < nl → 0 ≤ lf j_ ∧ lf j_ ≤ 5 from hlf) (show ∀ j_ : Nat, j_ < nl → 0 ≤ lt j_ ∧ lt j_ ≤ 5 from hlt) (show (hg lf lt (m - 1) (tree ||| 2 ^ (m - 1)) (unt g (grp g ((lf (m - 1)).toNat)) (grp g ((lt (m - 1)).toNat)) 6)).length + xs2_52.length ≤ 2002 from by have hq_ := g52_p.length_eq; rw [List.length_append] at hq_; rw [hV2, List.length_append] at hcap; omega) (show ((link - 1) + 1).toNat = (m - 1) ∧ -1 ≤ (link - 1) from by omega) (show (m - 1) ≤ 5 ∧ (m - 1) ≤ nl from by omega) (show (tree ||| 2 ^ (m - 1)) < 16384 from or_bd (N := 14) htr (by omega)) (show (unt g (grp g ((lf (m - 1)).toNat)) (grp g ((lt (m - 1)).toNat)) 6) < 262144 from unt_bd (g := g) hgg (grp_le _ _) (grp_le _ _) 6 (by decide)) (show xs2_52.length = n2_52 from g52_l) (show LsA fb2_52 xs2_52 from g52_s) (show xs2_52.Pairwise (· ≤ ·) from g52_o) (show ∀ x_ ∈ xs2_52, x_ < 16384 from g52_b)) mm_X9_hang (hstk := rfl) (hlen := rfl) (hcat := Nat.le_of_ble_eq_true rfl) (isC := [0, 1, 2, 3, 4, 5]) (isR := []) (wr := []) (hC := rfl) (hR := rfl) (hnC := rfl) (hn := rfl) (hdis := by decide) (hR1 := ⟨Nat.le_of_ble_eq_true rfl, Nat.le_of_ble_eq_true rfl⟩) (hcs := ⟨Nat.le_of_ble_eq_true rfl, Nat.le_of_ble_eq_true rfl⟩) (fun v_ w_ hp_ => ?_)
            obtain ⟨n2_111, fb2_111, xs2_111, rfl, rfl, g111_l, g111_s, g111_o, g111_p, g111_b⟩ := hp_
            replace g111_l : xs2_111.length = n2_111 := g111_l
            replace g111_s : LsA fb2_111 xs2_111 := g111_s
            replace g111_o : xs2_111.Pairwise (· ≤ ·) := g111_o
            replace g111_p : xs2_111.Perm (hg lf lt (m - 1) (tree ||| 2 ^ (m - 1)) (unt g (grp g ((lf (m - 1)).toNat)) (grp g ((lt (m - 1)).toNat)) 6) ++ xs2_52) := g111_p
            replace g111_b : ∀ x_ ∈ xs2_111, x_ < 16384 := g111_b
            show Wx _ _ _ _ _ _ _ _ _ _ _ _ _ _ _ _ 114 [(7, .int (iI ((grp g ((lt (m - 1)).toNat) : Nat) : Int))), (6, .int (iI ((grp g ((lf (m - 1)).toNat) : Nat) : Int))), (5, .int (iI (5 - ((popc tree : Nat) : Int)))), (0, .ref k), (1, .int (iI link)), (2, .int (iI (tree : Int))), (3, .int (iI (g : Int))), (4, .ref h)] [] [(k, ob 8 [.ref lk, .int (iI s0), .ref lk]), (lk, ob 2 [.ref la_, .ref lb_, .int (iI (nl : Int)), .ref lf_, .ref lt_]), (lf_, ia E 14 lf), (lt_, ia E 14 lt), (h, ob 7 [.ref hb, .ref ha, .ref hc, .int (iI (n2_111 : Int)), .int (iI sg)]), (hb, ia E 2002 fb2_111)]
            exact x_vret C hr dX9_hang_114 ⟨n2_111, fb2_111, xs2_111, rfl, rfl, (show xs2_111.length = n2_111 from g111_l), (show LsA fb2_111 xs2_111 from g111_s), (show xs2_111.Pairwise (· ≤ ·) from g111_o), (show xs2_111.Perm (hg lf lt m tree g ++ xs) from two_perm hV2 g52_p g111_p), (show ∀ x_ ∈ xs2_111, x_ < 16384 from g111_b)⟩
        ·
          exact x_vret C hr dX9_hang_43 ⟨n, fb, xs, rfl, rfl, (show xs.length = n from hlen), (show LsA fb xs from hls), (show xs.Pairwise (· ≤ ·) from hso), (show xs.Perm (hg lf lt m tree g ++ xs) from by rw [hg_0 (by omega) (by omega)]; exact List.Perm.refl _), (show ∀ x_ ∈ xs, x_ < 16384 from hbd)⟩
  ·
    refine x_aload (pc' := 15) C 5 dX9_hang_13 rfl rfl ?_
    refine x_iload_n (pc' := 16) C 3 dX9_hang_15 rfl rfl ?_
    refine x_callV (pc' := 19) (As := [.int (iI (tree : Int))]) (rest := []) (q0 := 0) C rfl rfl cv_X9_32_X8 dX9_hang_16 rfl (c_X8_insert l E h hb ha hc n tree sg fb xs (show n < 2002 from by rw [hg_5 (show popc tree = 5 by omega), List.length_singleton] at hcap; omega) (show tree < 1000000 from by omega) (show xs.length = n from hlen) (show LsA fb xs from hls) (show xs.Pairwise (· ≤ ·) from hso) (show ∀ j (h : j < xs.length), xs[j] < 1000000 from get_bd (fun x_ hx_ => Nat.lt_trans (hbd x_ hx_) (by decide)))) mm_X8_insert (hstk := rfl) (hlen := rfl) (hcat := Nat.le_of_ble_eq_true rfl) (isC := [4, 5]) (isR := [0, 1, 2, 3]) (wr := [(k, ob 8 [.ref lk, .int (iI s0), .ref lk]), (lk, ob 2 [.ref la_, .ref lb_, .int (iI (nl : Int)), .ref lf_, .ref lt_]), (lf_, ia E 14 lf), (lt_, ia E 14 lt)]) (hC := rfl) (hR := rfl) (hnC := rfl) (hn := rfl) (hdis := by decide) (hR1 := ⟨Nat.le_of_ble_eq_true rfl, Nat.le_of_ble_eq_true rfl⟩) (hcs := ⟨Nat.le_of_ble_eq_true rfl, Nat.le_of_ble_eq_true rfl⟩) (fun v_ w_ hp_ => ?_)
    obtain ⟨fb2_16, xs2_16, rfl, rfl, g16_l, g16_s, g16_o, g16_p⟩ := hp_
    replace g16_l : xs2_16.length = n + 1 := g16_l
    replace g16_s : LsA fb2_16 xs2_16 := g16_s
    replace g16_o : xs2_16.Pairwise (· ≤ ·) := g16_o
    replace g16_p : xs2_16.Perm (tree :: xs) := g16_p
    show Wx _ _ _ _ _ _ _ _ _ _ _ _ _ _ _ _ 19 [(5, .int (iI (5 - ((popc tree : Nat) : Int)))), (0, .ref k), (1, .int (iI link)), (2, .int (iI (tree : Int))), (3, .int (iI (g : Int))), (4, .ref h)] [] [(k, ob 8 [.ref lk, .int (iI s0), .ref lk]), (lk, ob 2 [.ref la_, .ref lb_, .int (iI (nl : Int)), .ref lf_, .ref lt_]), (lf_, ia E 14 lf), (lt_, ia E 14 lt), (h, ob 7 [.ref hb, .ref ha, .ref hc, .int (iI ((n + 1 : Nat) : Int)), .int (iI sg)]), (hb, ia E 2002 fb2_16)]
    exact x_vret C hr dX9_hang_19 ⟨(n + 1), fb2_16, xs2_16, rfl, rfl, (show xs2_16.length = (n + 1) from g16_l), (show LsA fb2_16 xs2_16 from g16_s), (show xs2_16.Pairwise (· ≤ ·) from g16_o), (show xs2_16.Perm (hg lf lt m tree g ++ xs) from by rw [hg_5 (show popc tree = 5 by omega)]; exact g16_p), (show ∀ x_ ∈ xs2_16, x_ < 16384 from mem_bd (L := [tree]) g16_p (one_bd htr) hbd)⟩

set_option maxHeartbeats 4000000 in
set_option maxRecDepth 100000 in
theorem c_X9_hang_7 (l : Launch) (E : EV) (k : Nat) (lk : Nat) (la_ : Nat) (lb_ : Nat) (lf_ : Nat) (lt_ : Nat) (nl : Nat) (s0 : Int) (lf : Nat → Int) (lt : Nat → Int) (h : Nat) (hb : Nat) (ha : Nat) (hc : Nat) (sg : Int) (fb : Nat → Int) (n : Nat) (m : Nat) (tree : Nat) (g : Nat) (link : Int) (xs : List Nat) (hnl : nl ≤ 14) (hlf : ∀ j_ : Nat, j_ < nl → 0 ≤ lf j_ ∧ lf j_ ≤ 5) (hlt : ∀ j_ : Nat, j_ < nl → 0 ≤ lt j_ ∧ lt j_ ≤ 5) (hcap : (hg lf lt m tree g).length + xs.length ≤ 2002) (hm : (link + 1).toNat = m ∧ -1 ≤ link) (hmL : m ≤ 7 ∧ m ≤ nl) (htr : tree < 16384) (hgg : g < 262144) (hlen : xs.length = n) (hls : LsA fb xs) (hso : xs.Pairwise (· ≤ ·)) (hbd : ∀ x_ ∈ xs, x_ < 16384) : MC l E yX9_hang cX9_hang 8 (none) ({ frames := 8, cells := 0, slots := 0, locals := 211 }) [.ref k, .int (iI link), .int (iI (tree : Int)), .int (iI (g : Int)), .ref h] [(k, ob 8 [.ref lk, .int (iI s0), .ref lk]), (lk, ob 2 [.ref la_, .ref lb_, .int (iI (nl : Int)), .ref lf_, .ref lt_]), (lf_, ia E 14 lf), (lt_, ia E 14 lt), (h, ob 7 [.ref hb, .ref ha, .ref hc, .int (iI (n : Int)), .int (iI sg)]), (hb, ia E 2002 fb)] (fun v_ w_ => ∃ (n2 : Nat) (fb2 : Nat → Int) (xs2 : List Nat), v_ = none ∧ w_ = [(k, ob 8 [.ref lk, .int (iI s0), .ref lk]), (lk, ob 2 [.ref la_, .ref lb_, .int (iI (nl : Int)), .ref lf_, .ref lt_]), (lf_, ia E 14 lf), (lt_, ia E 14 lt), (h, ob 7 [.ref hb, .ref ha, .ref hc, .int (iI (n2 : Int)), .int (iI sg)]), (hb, ia E 2002 fb2)] ∧ (xs2.length = n2) ∧ (LsA fb2 xs2) ∧ (xs2.Pairwise (· ≤ ·)) ∧ (xs2.Perm (hg lf lt m tree g ++ xs)) ∧ (∀ x_ ∈ xs2, x_ < 16384)) := by
  refine MC.of (by decide +kernel) (Nat.le_of_ble_eq_true rfl) ?_
  intro p_ e_ s_ m_ args_ below_ meth_ c_ A_ C hr hnm
  have C : Cx p_ s_ m_ args_ meth_ c_ E A_ 8 cX9_hang RX9 := C
  have hpc := popc_le tree
  show Wx _ _ _ _ _ _ _ _ _ _ _ _ _ _ _ _ 0 [(0, .ref k), (1, .int (iI link)), (2, .int (iI (tree : Int))), (3, .int (iI (g : Int))), (4, .ref h)] [] [(k, ob 8 [.ref lk, .int (iI s0), .ref lk]), (lk, ob 2 [.ref la_, .ref lb_, .int (iI (nl : Int)), .ref lf_, .ref lt_]), (lf_, ia E 14 lf), (lt_, ia E 14 lt), (h, ob 7 [.ref hb, .ref ha, .ref hc, .int (iI (n : Int)), .int (iI sg)]), (hb, ia E 2002 fb)]
  refine x_iconst (pc' := 1) C dX9_hang_0 rfl ?_
  refine x_iload_n (pc' := 2) C 2 dX9_hang_1 rfl rfl ?_
  refine x_callS (pc' := 5) (As := [.int (iI (tree : Int))]) (rest := [.int (iI 5)]) C cs_X9_26 dX9_hang_2 rfl (c_J6_bitCount_0f7a4 l E tree (show tree < 1000000 from by omega)) mm_J6_bitCount_0f7a4 (hstk := rfl) (hlen := rfl) (hcat := Nat.le_of_ble_eq_true rfl) (isC := []) (isR := [0, 1, 2, 3, 4, 5]) (wr := [(k, ob 8 [.ref lk, .int (iI s0), .ref lk]), (lk, ob 2 [.ref la_, .ref lb_, .int (iI (nl : Int)), .ref lf_, .ref lt_]), (lf_, ia E 14 lf), (lt_, ia E 14 lt), (h, ob 7 [.ref hb, .ref ha, .ref hc, .int (iI (n : Int)), .int (iI sg)]), (hb, ia E 2002 fb)]) (hC := rfl) (hR := rfl) (hnC := rfl) (hn := rfl) (hdis := by decide) (hR1 := ⟨Nat.le_of_ble_eq_true rfl, Nat.le_of_ble_eq_true rfl⟩) (hcs := ⟨Nat.le_of_ble_eq_true rfl, Nat.le_of_ble_eq_true rfl⟩) (fun v_ w_ hp_ => ?_)
  obtain ⟨rfl, rfl⟩ := hp_
  show Wx _ _ _ _ _ _ _ _ _ _ _ _ _ _ _ _ 5 [(0, .ref k), (1, .int (iI link)), (2, .int (iI (tree : Int))), (3, .int (iI (g : Int))), (4, .ref h)] [.int (iI ((popc tree : Nat) : Int)), .int (iI 5)] [(k, ob 8 [.ref lk, .int (iI s0), .ref lk]), (lk, ob 2 [.ref la_, .ref lb_, .int (iI (nl : Int)), .ref lf_, .ref lt_]), (lf_, ia E 14 lf), (lt_, ia E 14 lt), (h, ob 7 [.ref hb, .ref ha, .ref hc, .int (iI (n : Int)), .int (iI sg)]), (hb, ia E 2002 fb)]
  refine x_isub (pc' := 6) C dX9_hang_5 rfl ?_
  refine x_istore (pc' := 8) (lv' := [(5, .int (iI (5 - ((popc tree : Nat) : Int)))), (0, .ref k), (1, .int (iI link)), (2, .int (iI (tree : Int))), (3, .int (iI (g : Int))), (4, .ref h)]) C dX9_hang_6 rfl (by decide) rfl ?_
  refine x_iload (pc' := 10) C 0 dX9_hang_8 rfl rfl ?_
  refine x_if_ne (pc' := 13) (tgt := 20) C dX9_hang_10 rfl (by decide) (by omega) (fun c10 => ?_) (fun c10 => ?_)
  ·
    refine x_iload_n (pc' := 21) C 2 dX9_hang_20 rfl rfl ?_
    refine x_if_lt (pc' := 24) (tgt := 43) C dX9_hang_21 rfl (by decide) (by omega) (fun c21 => ?_) (fun c21 => ?_)
    ·
      exact x_vret C hr dX9_hang_43 ⟨n, fb, xs, rfl, rfl, (show xs.length = n from hlen), (show LsA fb xs from hls), (show xs.Pairwise (· ≤ ·) from hso), (show xs.Perm (hg lf lt m tree g ++ xs) from by rw [hg_0 (by omega) (by omega)]; exact List.Perm.refl _), (show ∀ x_ ∈ xs, x_ < 16384 from hbd)⟩
    ·
      refine x_iload_n (pc' := 25) C 2 dX9_hang_24 rfl rfl ?_
      refine x_aload_n (pc' := 26) C 1 dX9_hang_25 rfl rfl ?_
      refine x_get (pc' := 29) C dX9_hang_26 rfl ff_X9_9_8 0 rfl rfl ?_
      refine x_get (pc' := 32) C dX9_hang_29 rfl ff_X9_15_2 1 rfl rfl ?_
      refine x_icmp_ge (pc' := 35) (tgt := 43) C dX9_hang_32 rfl (by decide) (by omega) (by omega) (fun c32 => ?_) (fun c32 => ?_)
      ·
        exact absurd c32 (by omega)
      ·
        refine x_iload_n (pc' := 36) C 2 dX9_hang_35 rfl rfl ?_
        refine x_iconst (pc' := 37) C dX9_hang_36 rfl ?_
        refine x_iadd (pc' := 38) C dX9_hang_37 rfl ?_
        refine x_iload (pc' := 40) C 0 dX9_hang_38 rfl rfl ?_
        refine x_icmp_ge (pc' := 43) (tgt := 44) C dX9_hang_40 rfl (by decide) (by omega) (by omega) (fun c40 => ?_) (fun c40 => ?_)
        ·
          have hV := hg_s (lf := lf) (lt := lt) (m := m) (tree := tree) (g := g) (by omega) (by omega) (by omega)
          have hf1 := hlf (m - 1) (by omega)
          have ht1 := hlt (m - 1) (by omega)
          have hga := grp_le g (lf (m - 1)).toNat
          have hgb := grp_le g (lt (m - 1)).toNat
          refine x_aload_n (pc' := 45) C 1 dX9_hang_44 rfl rfl ?_
          refine x_iload_n (pc' := 46) C 2 dX9_hang_45 rfl rfl ?_
          refine x_iconst (pc' := 47) C dX9_hang_46 rfl ?_
          refine x_isub (pc' := 48) C dX9_hang_47 rfl ?_
          refine x_iload_n (pc' := 49) C 3 dX9_hang_48 rfl rfl ?_
          refine x_iload_n (pc' := 50) C 4 dX9_hang_49 rfl rfl ?_
          refine x_aload (pc' := 52) C 5 dX9_hang_50 rfl rfl ?_
          refine x_callV (pc' := 55) (As := [.int (iI (link - 1)), .int (iI (tree : Int)), .int (iI (g : Int)), .ref h]) (rest := []) (q0 := 0) C rfl rfl cv_X9_22_X9 dX9_hang_52 rfl (c_X9_hang_6 l E k lk la_ lb_ lf_ lt_ nl s0 lf lt h hb ha hc sg fb n (m - 1) tree g (link - 1) xs (show nl ≤ 14 from by omega) (show ∀ j_ : Nat, j_ < nl → 0 ≤ lf j_ ∧ lf j_ ≤ 5 from hlf) (show ∀ j_ : Nat, j_ < nl → 0 ≤ lt j_ ∧ lt j_ ≤ 5 from hlt) (show (hg lf lt (m - 1) tree g).length + xs.length ≤ 2002 from by rw [hV, List.length_append] at hcap; omega) (show ((link - 1) + 1).toNat = (m - 1) ∧ -1 ≤ (link - 1) from by omega) (show (m - 1) ≤ 6 ∧ (m - 1) ≤ nl from by omega) (show tree < 16384 from htr) (show g < 262144 from hgg) (show xs.length = n from hlen) (show LsA fb xs from hls) (show xs.Pairwise (· ≤ ·) from hso) (show ∀ x_ ∈ xs, x_ < 16384 from hbd)) mm_X9_hang (hstk := rfl) (hlen := rfl) (hcat := Nat.le_of_ble_eq_true rfl) (isC := [0, 1, 2, 3, 4, 5]) (isR := []) (wr := []) (hC := rfl) (hR := rfl) (hnC := rfl) (hn := rfl) (hdis := by decide) (hR1 := ⟨Nat.le_of_ble_eq_true rfl, Nat.le_of_ble_eq_true rfl⟩) (hcs := ⟨Nat.le_of_ble_eq_true rfl, Nat.le_of_ble_eq_true rfl⟩) (fun v_ w_ hp_ => ?_)
          obtain ⟨n2_52, fb2_52, xs2_52, rfl, rfl, g52_l, g52_s, g52_o, g52_p, g52_b⟩ := hp_
          replace g52_l : xs2_52.length = n2_52 := g52_l
          replace g52_s : LsA fb2_52 xs2_52 := g52_s
          replace g52_o : xs2_52.Pairwise (· ≤ ·) := g52_o
          replace g52_p : xs2_52.Perm (hg lf lt (m - 1) tree g ++ xs) := g52_p
          replace g52_b : ∀ x_ ∈ xs2_52, x_ < 16384 := g52_b
          show Wx _ _ _ _ _ _ _ _ _ _ _ _ _ _ _ _ 55 [(5, .int (iI (5 - ((popc tree : Nat) : Int)))), (0, .ref k), (1, .int (iI link)), (2, .int (iI (tree : Int))), (3, .int (iI (g : Int))), (4, .ref h)] [] [(k, ob 8 [.ref lk, .int (iI s0), .ref lk]), (lk, ob 2 [.ref la_, .ref lb_, .int (iI (nl : Int)), .ref lf_, .ref lt_]), (lf_, ia E 14 lf), (lt_, ia E 14 lt), (h, ob 7 [.ref hb, .ref ha, .ref hc, .int (iI (n2_52 : Int)), .int (iI sg)]), (hb, ia E 2002 fb2_52)]
          refine x_iload_n (pc' := 56) C 4 dX9_hang_55 rfl rfl ?_
          refine x_aload_n (pc' := 57) C 1 dX9_hang_56 rfl rfl ?_
          refine x_get (pc' := 60) C dX9_hang_57 rfl ff_X9_9_8 0 rfl rfl ?_
          refine x_get (pc' := 63) C dX9_hang_60 rfl ff_X9_38_2 1 rfl rfl ?_
          refine x_iload_n (pc' := 64) C 2 dX9_hang_63 rfl rfl ?_
          refine x_iald (pc' := 65) C (m - 1) dX9_hang_64 rfl 2 rfl (by omega) (by omega) (by omega) ?_
          refine x_top (b := .int (iI (((lf (m - 1)).toNat : Nat) : Int))) (by congr 2; omega) ?_
          refine x_callS (pc' := 68) (As := [.int (iI (g : Int)), .int (iI (((lf (m - 1)).toNat : Nat) : Int))]) (rest := []) C cs_X9_42 dX9_hang_65 rfl (c_X9_groupOf l E g ((lf (m - 1)).toNat) (show g < 1000000 from by omega) (show ((lf (m - 1)).toNat) ≤ 5 from by omega)) mm_X9_groupOf (hstk := rfl) (hlen := rfl) (hcat := Nat.le_of_ble_eq_true rfl) (isC := []) (isR := [0, 1, 2, 3, 4, 5]) (wr := [(k, ob 8 [.ref lk, .int (iI s0), .ref lk]), (lk, ob 2 [.ref la_, .ref lb_, .int (iI (nl : Int)), .ref lf_, .ref lt_]), (lf_, ia E 14 lf), (lt_, ia E 14 lt), (h, ob 7 [.ref hb, .ref ha, .ref hc, .int (iI (n2_52 : Int)), .int (iI sg)]), (hb, ia E 2002 fb2_52)]) (hC := rfl) (hR := rfl) (hnC := rfl) (hn := rfl) (hdis := by decide) (hR1 := ⟨Nat.le_of_ble_eq_true rfl, Nat.le_of_ble_eq_true rfl⟩) (hcs := ⟨Nat.le_of_ble_eq_true rfl, Nat.le_of_ble_eq_true rfl⟩) (fun v_ w_ hp_ => ?_)
          obtain ⟨rfl, rfl⟩ := hp_
          show Wx _ _ _ _ _ _ _ _ _ _ _ _ _ _ _ _ 68 [(5, .int (iI (5 - ((popc tree : Nat) : Int)))), (0, .ref k), (1, .int (iI link)), (2, .int (iI (tree : Int))), (3, .int (iI (g : Int))), (4, .ref h)] [.int (iI ((grp g ((lf (m - 1)).toNat) : Nat) : Int))] [(k, ob 8 [.ref lk, .int (iI s0), .ref lk]), (lk, ob 2 [.ref la_, .ref lb_, .int (iI (nl : Int)), .ref lf_, .ref lt_]), (lf_, ia E 14 lf), (lt_, ia E 14 lt), (h, ob 7 [.ref hb, .ref ha, .ref hc, .int (iI (n2_52 : Int)), .int (iI sg)]), (hb, ia E 2002 fb2_52)]
          refine x_istore (pc' := 70) (lv' := [(6, .int (iI ((grp g ((lf (m - 1)).toNat) : Nat) : Int))), (5, .int (iI (5 - ((popc tree : Nat) : Int)))), (0, .ref k), (1, .int (iI link)), (2, .int (iI (tree : Int))), (3, .int (iI (g : Int))), (4, .ref h)]) C dX9_hang_68 rfl (by decide) rfl ?_
          refine x_iload_n (pc' := 71) C 5 dX9_hang_70 rfl rfl ?_
          refine x_aload_n (pc' := 72) C 2 dX9_hang_71 rfl rfl ?_
          refine x_get (pc' := 75) C dX9_hang_72 rfl ff_X9_9_8 0 rfl rfl ?_
          refine x_get (pc' := 78) C dX9_hang_75 rfl ff_X9_46_2 1 rfl rfl ?_
          refine x_iload_n (pc' := 79) C 3 dX9_hang_78 rfl rfl ?_
          refine x_iald (pc' := 80) C (m - 1) dX9_hang_79 rfl 3 rfl (by omega) (by omega) (by omega) ?_
          refine x_top (b := .int (iI (((lt (m - 1)).toNat : Nat) : Int))) (by congr 2; omega) ?_
          refine x_callS (pc' := 83) (As := [.int (iI (g : Int)), .int (iI (((lt (m - 1)).toNat : Nat) : Int))]) (rest := []) C cs_X9_42 dX9_hang_80 rfl (c_X9_groupOf l E g ((lt (m - 1)).toNat) (show g < 1000000 from by omega) (show ((lt (m - 1)).toNat) ≤ 5 from by omega)) mm_X9_groupOf (hstk := rfl) (hlen := rfl) (hcat := Nat.le_of_ble_eq_true rfl) (isC := []) (isR := [0, 1, 2, 3, 4, 5]) (wr := [(k, ob 8 [.ref lk, .int (iI s0), .ref lk]), (lk, ob 2 [.ref la_, .ref lb_, .int (iI (nl : Int)), .ref lf_, .ref lt_]), (lf_, ia E 14 lf), (lt_, ia E 14 lt), (h, ob 7 [.ref hb, .ref ha, .ref hc, .int (iI (n2_52 : Int)), .int (iI sg)]), (hb, ia E 2002 fb2_52)]) (hC := rfl) (hR := rfl) (hnC := rfl) (hn := rfl) (hdis := by decide) (hR1 := ⟨Nat.le_of_ble_eq_true rfl, Nat.le_of_ble_eq_true rfl⟩) (hcs := ⟨Nat.le_of_ble_eq_true rfl, Nat.le_of_ble_eq_true rfl⟩) (fun v_ w_ hp_ => ?_)
          obtain ⟨rfl, rfl⟩ := hp_
          show Wx _ _ _ _ _ _ _ _ _ _ _ _ _ _ _ _ 83 [(6, .int (iI ((grp g ((lf (m - 1)).toNat) : Nat) : Int))), (5, .int (iI (5 - ((popc tree : Nat) : Int)))), (0, .ref k), (1, .int (iI link)), (2, .int (iI (tree : Int))), (3, .int (iI (g : Int))), (4, .ref h)] [.int (iI ((grp g ((lt (m - 1)).toNat) : Nat) : Int))] [(k, ob 8 [.ref lk, .int (iI s0), .ref lk]), (lk, ob 2 [.ref la_, .ref lb_, .int (iI (nl : Int)), .ref lf_, .ref lt_]), (lf_, ia E 14 lf), (lt_, ia E 14 lt), (h, ob 7 [.ref hb, .ref ha, .ref hc, .int (iI (n2_52 : Int)), .int (iI sg)]), (hb, ia E 2002 fb2_52)]
          refine x_istore (pc' := 85) (lv' := [(7, .int (iI ((grp g ((lt (m - 1)).toNat) : Nat) : Int))), (6, .int (iI ((grp g ((lf (m - 1)).toNat) : Nat) : Int))), (5, .int (iI (5 - ((popc tree : Nat) : Int)))), (0, .ref k), (1, .int (iI link)), (2, .int (iI (tree : Int))), (3, .int (iI (g : Int))), (4, .ref h)]) C dX9_hang_83 rfl (by decide) rfl ?_
          refine x_iload (pc' := 87) C 1 dX9_hang_85 rfl rfl ?_
          refine x_iload (pc' := 89) C 0 dX9_hang_87 rfl rfl ?_
          refine x_icmp_eq (pc' := 92) (tgt := 114) C dX9_hang_89 rfl (by decide) (by omega) (by omega) (fun c89 => ?_) (fun c89 => ?_)
          ·
            exact x_vret C hr dX9_hang_114 ⟨n2_52, fb2_52, xs2_52, rfl, rfl, (show xs2_52.length = n2_52 from g52_l), (show LsA fb2_52 xs2_52 from g52_s), (show xs2_52.Pairwise (· ≤ ·) from g52_o), (show xs2_52.Perm (hg lf lt m tree g ++ xs) from two_perm (W := []) (by rw [hV, if_pos (by omega)]) g52_p (List.Perm.refl _)), (show ∀ x_ ∈ xs2_52, x_ < 16384 from g52_b)⟩
          ·
            have hV2 := hV
            rw [if_neg (by omega)] at hV2
            refine x_aload_n (pc' := 93) C 3 dX9_hang_92 rfl rfl ?_
            refine x_iload_n (pc' := 94) C 4 dX9_hang_93 rfl rfl ?_
            refine x_iconst (pc' := 95) C dX9_hang_94 rfl ?_
            refine x_isub (pc' := 96) C dX9_hang_95 rfl ?_
            refine x_iload_n (pc' := 97) C 5 dX9_hang_96 rfl rfl ?_
            refine x_iconst (pc' := 98) C dX9_hang_97 rfl ?_
            refine x_iload_n (pc' := 99) C 4 dX9_hang_98 rfl rfl ?_
            refine x_ishl (pc' := 100) (z := (iI ((2 ^ (m - 1) : Nat) : Int))) C dX9_hang_99 rfl (by rw [show link = ((m - 1 : Nat) : Int) by omega]; exact bt_shl (by omega)) ?_
            refine x_ior (pc' := 101) (z := (iI ((tree ||| 2 ^ (m - 1) : Nat) : Int))) C dX9_hang_100 rfl (bt_or _ _) ?_
            refine x_iload_n (pc' := 102) C 6 dX9_hang_101 rfl rfl ?_
            refine x_iload (pc' := 104) C 1 dX9_hang_102 rfl rfl ?_
            refine x_iload (pc' := 106) C 0 dX9_hang_104 rfl rfl ?_
            refine x_callS (pc' := 109) (As := [.int (iI (g : Int)), .int (iI ((grp g ((lf (m - 1)).toNat) : Nat) : Int)), .int (iI ((grp g ((lt (m - 1)).toNat) : Nat) : Int))]) (rest := [.int (iI ((tree ||| 2 ^ (m - 1) : Nat) : Int)), .int (iI (link - 1)), .ref k]) C cs_X9_49 dX9_hang_106 rfl (c_X9_unite l E g (grp g ((lf (m - 1)).toNat)) (grp g ((lt (m - 1)).toNat)) (show g < 262144 from by omega) (show (grp g ((lf (m - 1)).toNat)) ≤ 7 from by omega) (show (grp g ((lt (m - 1)).toNat)) ≤ 7 from by omega)) mm_X9_unite (hstk := rfl) (hlen := rfl) (hcat := Nat.le_of_ble_eq_true rfl) (isC := []) (isR := [0, 1, 2, 3, 4, 5]) (wr := [(k, ob 8 [.ref lk, .int (iI s0), .ref lk]), (lk, ob 2 [.ref la_, .ref lb_, .int (iI (nl : Int)), .ref lf_, .ref lt_]), (lf_, ia E 14 lf), (lt_, ia E 14 lt), (h, ob 7 [.ref hb, .ref ha, .ref hc, .int (iI (n2_52 : Int)), .int (iI sg)]), (hb, ia E 2002 fb2_52)]) (hC := rfl) (hR := rfl) (hnC := rfl) (hn := rfl) (hdis := by decide) (hR1 := ⟨Nat.le_of_ble_eq_true rfl, Nat.le_of_ble_eq_true rfl⟩) (hcs := ⟨Nat.le_of_ble_eq_true rfl, Nat.le_of_ble_eq_true rfl⟩) (fun v_ w_ hp_ => ?_)
            obtain ⟨rfl, rfl⟩ := hp_
            show Wx _ _ _ _ _ _ _ _ _ _ _ _ _ _ _ _ 109 [(7, .int (iI ((grp g ((lt (m - 1)).toNat) : Nat) : Int))), (6, .int (iI ((grp g ((lf (m - 1)).toNat) : Nat) : Int))), (5, .int (iI (5 - ((popc tree : Nat) : Int)))), (0, .ref k), (1, .int (iI link)), (2, .int (iI (tree : Int))), (3, .int (iI (g : Int))), (4, .ref h)] [.int (iI ((unt g (grp g ((lf (m - 1)).toNat)) (grp g ((lt (m - 1)).toNat)) 6 : Nat) : Int)), .int (iI ((tree ||| 2 ^ (m - 1) : Nat) : Int)), .int (iI (link - 1)), .ref k] [(k, ob 8 [.ref lk, .int (iI s0), .ref lk]), (lk, ob 2 [.ref la_, .ref lb_, .int (iI (nl : Int)), .ref lf_, .ref lt_]), (lf_, ia E 14 lf), (lt_, ia E 14 lt), (h, ob 7 [.ref hb, .ref ha, .ref hc, .int (iI (n2_52 : Int)), .int (iI sg)]), (hb, ia E 2002 fb2_52)]
            refine x_aload (pc' := 111) C 7 dX9_hang_109 rfl rfl ?_
            refine x_callV (pc' := 114) (As := [.int (iI (link - 1)), .int (iI ((tree ||| 2 ^ (m - 1) : Nat) : Int)), .int (iI ((unt g (grp g ((lf (m - 1)).toNat)) (grp g ((lt (m - 1)).toNat)) 6 : Nat) : Int)), .ref h]) (rest := []) (q0 := 0) C rfl rfl cv_X9_22_X9 dX9_hang_111 rfl (c_X9_hang_6 l E k lk la_ lb_ lf_ lt_ nl s0 lf lt h hb ha hc sg fb2_52 n2_52 (m - 1) (tree ||| 2 ^ (m - 1)) (unt g (grp g ((lf (m - 1)).toNat)) (grp g ((lt (m - 1)).toNat)) 6) (link - 1) xs2_52 (show nl ≤ 14 from by omega) (show ∀ j_ : Nat, j_ < nl → 0 ≤ lf j_ ∧ lf j_ ≤ 5 from hlf) (show ∀ j_ : Nat, j_ < nl → 0 ≤ lt j_ ∧ lt j_ ≤ 5 from hlt) (show (hg lf lt (m - 1) (tree ||| 2 ^ (m - 1)) (unt g (grp g ((lf (m - 1)).toNat)) (grp g ((lt (m - 1)).toNat)) 6)).length + xs2_52.length ≤ 2002 from by have hq_ := g52_p.length_eq; rw [List.length_append] at hq_; rw [hV2, List.length_append] at hcap; omega) (show ((link - 1) + 1).toNat = (m - 1) ∧ -1 ≤ (link - 1) from by omega) (show (m - 1) ≤ 6 ∧ (m - 1) ≤ nl from by omega) (show (tree ||| 2 ^ (m - 1)) < 16384 from or_bd (N := 14) htr (by omega)) (show (unt g (grp g ((lf (m - 1)).toNat)) (grp g ((lt (m - 1)).toNat)) 6) < 262144 from unt_bd (g := g) hgg (grp_le _ _) (grp_le _ _) 6 (by decide)) (show xs2_52.length = n2_52 from g52_l) (show LsA fb2_52 xs2_52 from g52_s) (show xs2_52.Pairwise (· ≤ ·) from g52_o) (show ∀ x_ ∈ xs2_52, x_ < 16384 from g52_b)) mm_X9_hang (hstk := rfl) (hlen := rfl) (hcat := Nat.le_of_ble_eq_true rfl) (isC := [0, 1, 2, 3, 4, 5]) (isR := []) (wr := []) (hC := rfl) (hR := rfl) (hnC := rfl) (hn := rfl) (hdis := by decide) (hR1 := ⟨Nat.le_of_ble_eq_true rfl, Nat.le_of_ble_eq_true rfl⟩) (hcs := ⟨Nat.le_of_ble_eq_true rfl, Nat.le_of_ble_eq_true rfl⟩) (fun v_ w_ hp_ => ?_)
            obtain ⟨n2_111, fb2_111, xs2_111, rfl, rfl, g111_l, g111_s, g111_o, g111_p, g111_b⟩ := hp_
            replace g111_l : xs2_111.length = n2_111 := g111_l
            replace g111_s : LsA fb2_111 xs2_111 := g111_s
            replace g111_o : xs2_111.Pairwise (· ≤ ·) := g111_o
            replace g111_p : xs2_111.Perm (hg lf lt (m - 1) (tree ||| 2 ^ (m - 1)) (unt g (grp g ((lf (m - 1)).toNat)) (grp g ((lt (m - 1)).toNat)) 6) ++ xs2_52) := g111_p
            replace g111_b : ∀ x_ ∈ xs2_111, x_ < 16384 := g111_b
            show Wx _ _ _ _ _ _ _ _ _ _ _ _ _ _ _ _ 114 [(7, .int (iI ((grp g ((lt (m - 1)).toNat) : Nat) : Int))), (6, .int (iI ((grp g ((lf (m - 1)).toNat) : Nat) : Int))), (5, .int (iI (5 - ((popc tree : Nat) : Int)))), (0, .ref k), (1, .int (iI link)), (2, .int (iI (tree : Int))), (3, .int (iI (g : Int))), (4, .ref h)] [] [(k, ob 8 [.ref lk, .int (iI s0), .ref lk]), (lk, ob 2 [.ref la_, .ref lb_, .int (iI (nl : Int)), .ref lf_, .ref lt_]), (lf_, ia E 14 lf), (lt_, ia E 14 lt), (h, ob 7 [.ref hb, .ref ha, .ref hc, .int (iI (n2_111 : Int)), .int (iI sg)]), (hb, ia E 2002 fb2_111)]
            exact x_vret C hr dX9_hang_114 ⟨n2_111, fb2_111, xs2_111, rfl, rfl, (show xs2_111.length = n2_111 from g111_l), (show LsA fb2_111 xs2_111 from g111_s), (show xs2_111.Pairwise (· ≤ ·) from g111_o), (show xs2_111.Perm (hg lf lt m tree g ++ xs) from two_perm hV2 g52_p g111_p), (show ∀ x_ ∈ xs2_111, x_ < 16384 from g111_b)⟩
        ·
          exact x_vret C hr dX9_hang_43 ⟨n, fb, xs, rfl, rfl, (show xs.length = n from hlen), (show LsA fb xs from hls), (show xs.Pairwise (· ≤ ·) from hso), (show xs.Perm (hg lf lt m tree g ++ xs) from by rw [hg_0 (by omega) (by omega)]; exact List.Perm.refl _), (show ∀ x_ ∈ xs, x_ < 16384 from hbd)⟩
  ·
    refine x_aload (pc' := 15) C 5 dX9_hang_13 rfl rfl ?_
    refine x_iload_n (pc' := 16) C 3 dX9_hang_15 rfl rfl ?_
    refine x_callV (pc' := 19) (As := [.int (iI (tree : Int))]) (rest := []) (q0 := 0) C rfl rfl cv_X9_32_X8 dX9_hang_16 rfl (c_X8_insert l E h hb ha hc n tree sg fb xs (show n < 2002 from by rw [hg_5 (show popc tree = 5 by omega), List.length_singleton] at hcap; omega) (show tree < 1000000 from by omega) (show xs.length = n from hlen) (show LsA fb xs from hls) (show xs.Pairwise (· ≤ ·) from hso) (show ∀ j (h : j < xs.length), xs[j] < 1000000 from get_bd (fun x_ hx_ => Nat.lt_trans (hbd x_ hx_) (by decide)))) mm_X8_insert (hstk := rfl) (hlen := rfl) (hcat := Nat.le_of_ble_eq_true rfl) (isC := [4, 5]) (isR := [0, 1, 2, 3]) (wr := [(k, ob 8 [.ref lk, .int (iI s0), .ref lk]), (lk, ob 2 [.ref la_, .ref lb_, .int (iI (nl : Int)), .ref lf_, .ref lt_]), (lf_, ia E 14 lf), (lt_, ia E 14 lt)]) (hC := rfl) (hR := rfl) (hnC := rfl) (hn := rfl) (hdis := by decide) (hR1 := ⟨Nat.le_of_ble_eq_true rfl, Nat.le_of_ble_eq_true rfl⟩) (hcs := ⟨Nat.le_of_ble_eq_true rfl, Nat.le_of_ble_eq_true rfl⟩) (fun v_ w_ hp_ => ?_)
    obtain ⟨fb2_16, xs2_16, rfl, rfl, g16_l, g16_s, g16_o, g16_p⟩ := hp_
    replace g16_l : xs2_16.length = n + 1 := g16_l
    replace g16_s : LsA fb2_16 xs2_16 := g16_s
    replace g16_o : xs2_16.Pairwise (· ≤ ·) := g16_o
    replace g16_p : xs2_16.Perm (tree :: xs) := g16_p
    show Wx _ _ _ _ _ _ _ _ _ _ _ _ _ _ _ _ 19 [(5, .int (iI (5 - ((popc tree : Nat) : Int)))), (0, .ref k), (1, .int (iI link)), (2, .int (iI (tree : Int))), (3, .int (iI (g : Int))), (4, .ref h)] [] [(k, ob 8 [.ref lk, .int (iI s0), .ref lk]), (lk, ob 2 [.ref la_, .ref lb_, .int (iI (nl : Int)), .ref lf_, .ref lt_]), (lf_, ia E 14 lf), (lt_, ia E 14 lt), (h, ob 7 [.ref hb, .ref ha, .ref hc, .int (iI ((n + 1 : Nat) : Int)), .int (iI sg)]), (hb, ia E 2002 fb2_16)]
    exact x_vret C hr dX9_hang_19 ⟨(n + 1), fb2_16, xs2_16, rfl, rfl, (show xs2_16.length = (n + 1) from g16_l), (show LsA fb2_16 xs2_16 from g16_s), (show xs2_16.Pairwise (· ≤ ·) from g16_o), (show xs2_16.Perm (hg lf lt m tree g ++ xs) from by rw [hg_5 (show popc tree = 5 by omega)]; exact g16_p), (show ∀ x_ ∈ xs2_16, x_ < 16384 from mem_bd (L := [tree]) g16_p (one_bd htr) hbd)⟩

set_option maxHeartbeats 4000000 in
set_option maxRecDepth 100000 in
theorem c_X9_hang_8 (l : Launch) (E : EV) (k : Nat) (lk : Nat) (la_ : Nat) (lb_ : Nat) (lf_ : Nat) (lt_ : Nat) (nl : Nat) (s0 : Int) (lf : Nat → Int) (lt : Nat → Int) (h : Nat) (hb : Nat) (ha : Nat) (hc : Nat) (sg : Int) (fb : Nat → Int) (n : Nat) (m : Nat) (tree : Nat) (g : Nat) (link : Int) (xs : List Nat) (hnl : nl ≤ 14) (hlf : ∀ j_ : Nat, j_ < nl → 0 ≤ lf j_ ∧ lf j_ ≤ 5) (hlt : ∀ j_ : Nat, j_ < nl → 0 ≤ lt j_ ∧ lt j_ ≤ 5) (hcap : (hg lf lt m tree g).length + xs.length ≤ 2002) (hm : (link + 1).toNat = m ∧ -1 ≤ link) (hmL : m ≤ 8 ∧ m ≤ nl) (htr : tree < 16384) (hgg : g < 262144) (hlen : xs.length = n) (hls : LsA fb xs) (hso : xs.Pairwise (· ≤ ·)) (hbd : ∀ x_ ∈ xs, x_ < 16384) : MC l E yX9_hang cX9_hang 8 (none) ({ frames := 9, cells := 0, slots := 0, locals := 238 }) [.ref k, .int (iI link), .int (iI (tree : Int)), .int (iI (g : Int)), .ref h] [(k, ob 8 [.ref lk, .int (iI s0), .ref lk]), (lk, ob 2 [.ref la_, .ref lb_, .int (iI (nl : Int)), .ref lf_, .ref lt_]), (lf_, ia E 14 lf), (lt_, ia E 14 lt), (h, ob 7 [.ref hb, .ref ha, .ref hc, .int (iI (n : Int)), .int (iI sg)]), (hb, ia E 2002 fb)] (fun v_ w_ => ∃ (n2 : Nat) (fb2 : Nat → Int) (xs2 : List Nat), v_ = none ∧ w_ = [(k, ob 8 [.ref lk, .int (iI s0), .ref lk]), (lk, ob 2 [.ref la_, .ref lb_, .int (iI (nl : Int)), .ref lf_, .ref lt_]), (lf_, ia E 14 lf), (lt_, ia E 14 lt), (h, ob 7 [.ref hb, .ref ha, .ref hc, .int (iI (n2 : Int)), .int (iI sg)]), (hb, ia E 2002 fb2)] ∧ (xs2.length = n2) ∧ (LsA fb2 xs2) ∧ (xs2.Pairwise (· ≤ ·)) ∧ (xs2.Perm (hg lf lt m tree g ++ xs)) ∧ (∀ x_ ∈ xs2, x_ < 16384)) := by
  refine MC.of (by decide +kernel) (Nat.le_of_ble_eq_true rfl) ?_
  intro p_ e_ s_ m_ args_ below_ meth_ c_ A_ C hr hnm
  have C : Cx p_ s_ m_ args_ meth_ c_ E A_ 8 cX9_hang RX9 := C
  have hpc := popc_le tree
  show Wx _ _ _ _ _ _ _ _ _ _ _ _ _ _ _ _ 0 [(0, .ref k), (1, .int (iI link)), (2, .int (iI (tree : Int))), (3, .int (iI (g : Int))), (4, .ref h)] [] [(k, ob 8 [.ref lk, .int (iI s0), .ref lk]), (lk, ob 2 [.ref la_, .ref lb_, .int (iI (nl : Int)), .ref lf_, .ref lt_]), (lf_, ia E 14 lf), (lt_, ia E 14 lt), (h, ob 7 [.ref hb, .ref ha, .ref hc, .int (iI (n : Int)), .int (iI sg)]), (hb, ia E 2002 fb)]
  refine x_iconst (pc' := 1) C dX9_hang_0 rfl ?_
  refine x_iload_n (pc' := 2) C 2 dX9_hang_1 rfl rfl ?_
  refine x_callS (pc' := 5) (As := [.int (iI (tree : Int))]) (rest := [.int (iI 5)]) C cs_X9_26 dX9_hang_2 rfl (c_J6_bitCount_0f7a4 l E tree (show tree < 1000000 from by omega)) mm_J6_bitCount_0f7a4 (hstk := rfl) (hlen := rfl) (hcat := Nat.le_of_ble_eq_true rfl) (isC := []) (isR := [0, 1, 2, 3, 4, 5]) (wr := [(k, ob 8 [.ref lk, .int (iI s0), .ref lk]), (lk, ob 2 [.ref la_, .ref lb_, .int (iI (nl : Int)), .ref lf_, .ref lt_]), (lf_, ia E 14 lf), (lt_, ia E 14 lt), (h, ob 7 [.ref hb, .ref ha, .ref hc, .int (iI (n : Int)), .int (iI sg)]), (hb, ia E 2002 fb)]) (hC := rfl) (hR := rfl) (hnC := rfl) (hn := rfl) (hdis := by decide) (hR1 := ⟨Nat.le_of_ble_eq_true rfl, Nat.le_of_ble_eq_true rfl⟩) (hcs := ⟨Nat.le_of_ble_eq_true rfl, Nat.le_of_ble_eq_true rfl⟩) (fun v_ w_ hp_ => ?_)
  obtain ⟨rfl, rfl⟩ := hp_
  show Wx _ _ _ _ _ _ _ _ _ _ _ _ _ _ _ _ 5 [(0, .ref k), (1, .int (iI link)), (2, .int (iI (tree : Int))), (3, .int (iI (g : Int))), (4, .ref h)] [.int (iI ((popc tree : Nat) : Int)), .int (iI 5)] [(k, ob 8 [.ref lk, .int (iI s0), .ref lk]), (lk, ob 2 [.ref la_, .ref lb_, .int (iI (nl : Int)), .ref lf_, .ref lt_]), (lf_, ia E 14 lf), (lt_, ia E 14 lt), (h, ob 7 [.ref hb, .ref ha, .ref hc, .int (iI (n : Int)), .int (iI sg)]), (hb, ia E 2002 fb)]
  refine x_isub (pc' := 6) C dX9_hang_5 rfl ?_
  refine x_istore (pc' := 8) (lv' := [(5, .int (iI (5 - ((popc tree : Nat) : Int)))), (0, .ref k), (1, .int (iI link)), (2, .int (iI (tree : Int))), (3, .int (iI (g : Int))), (4, .ref h)]) C dX9_hang_6 rfl (by decide) rfl ?_
  refine x_iload (pc' := 10) C 0 dX9_hang_8 rfl rfl ?_
  refine x_if_ne (pc' := 13) (tgt := 20) C dX9_hang_10 rfl (by decide) (by omega) (fun c10 => ?_) (fun c10 => ?_)
  ·
    refine x_iload_n (pc' := 21) C 2 dX9_hang_20 rfl rfl ?_
    refine x_if_lt (pc' := 24) (tgt := 43) C dX9_hang_21 rfl (by decide) (by omega) (fun c21 => ?_) (fun c21 => ?_)
    ·
      exact x_vret C hr dX9_hang_43 ⟨n, fb, xs, rfl, rfl, (show xs.length = n from hlen), (show LsA fb xs from hls), (show xs.Pairwise (· ≤ ·) from hso), (show xs.Perm (hg lf lt m tree g ++ xs) from by rw [hg_0 (by omega) (by omega)]; exact List.Perm.refl _), (show ∀ x_ ∈ xs, x_ < 16384 from hbd)⟩
    ·
      refine x_iload_n (pc' := 25) C 2 dX9_hang_24 rfl rfl ?_
      refine x_aload_n (pc' := 26) C 1 dX9_hang_25 rfl rfl ?_
      refine x_get (pc' := 29) C dX9_hang_26 rfl ff_X9_9_8 0 rfl rfl ?_
      refine x_get (pc' := 32) C dX9_hang_29 rfl ff_X9_15_2 1 rfl rfl ?_
      refine x_icmp_ge (pc' := 35) (tgt := 43) C dX9_hang_32 rfl (by decide) (by omega) (by omega) (fun c32 => ?_) (fun c32 => ?_)
      ·
        exact absurd c32 (by omega)
      ·
        refine x_iload_n (pc' := 36) C 2 dX9_hang_35 rfl rfl ?_
        refine x_iconst (pc' := 37) C dX9_hang_36 rfl ?_
        refine x_iadd (pc' := 38) C dX9_hang_37 rfl ?_
        refine x_iload (pc' := 40) C 0 dX9_hang_38 rfl rfl ?_
        refine x_icmp_ge (pc' := 43) (tgt := 44) C dX9_hang_40 rfl (by decide) (by omega) (by omega) (fun c40 => ?_) (fun c40 => ?_)
        ·
          have hV := hg_s (lf := lf) (lt := lt) (m := m) (tree := tree) (g := g) (by omega) (by omega) (by omega)
          have hf1 := hlf (m - 1) (by omega)
          have ht1 := hlt (m - 1) (by omega)
          have hga := grp_le g (lf (m - 1)).toNat
          have hgb := grp_le g (lt (m - 1)).toNat
          refine x_aload_n (pc' := 45) C 1 dX9_hang_44 rfl rfl ?_
          refine x_iload_n (pc' := 46) C 2 dX9_hang_45 rfl rfl ?_
          refine x_iconst (pc' := 47) C dX9_hang_46 rfl ?_
          refine x_isub (pc' := 48) C dX9_hang_47 rfl ?_
          refine x_iload_n (pc' := 49) C 3 dX9_hang_48 rfl rfl ?_
          refine x_iload_n (pc' := 50) C 4 dX9_hang_49 rfl rfl ?_
          refine x_aload (pc' := 52) C 5 dX9_hang_50 rfl rfl ?_
          refine x_callV (pc' := 55) (As := [.int (iI (link - 1)), .int (iI (tree : Int)), .int (iI (g : Int)), .ref h]) (rest := []) (q0 := 0) C rfl rfl cv_X9_22_X9 dX9_hang_52 rfl (c_X9_hang_7 l E k lk la_ lb_ lf_ lt_ nl s0 lf lt h hb ha hc sg fb n (m - 1) tree g (link - 1) xs (show nl ≤ 14 from by omega) (show ∀ j_ : Nat, j_ < nl → 0 ≤ lf j_ ∧ lf j_ ≤ 5 from hlf) (show ∀ j_ : Nat, j_ < nl → 0 ≤ lt j_ ∧ lt j_ ≤ 5 from hlt) (show (hg lf lt (m - 1) tree g).length + xs.length ≤ 2002 from by rw [hV, List.length_append] at hcap; omega) (show ((link - 1) + 1).toNat = (m - 1) ∧ -1 ≤ (link - 1) from by omega) (show (m - 1) ≤ 7 ∧ (m - 1) ≤ nl from by omega) (show tree < 16384 from htr) (show g < 262144 from hgg) (show xs.length = n from hlen) (show LsA fb xs from hls) (show xs.Pairwise (· ≤ ·) from hso) (show ∀ x_ ∈ xs, x_ < 16384 from hbd)) mm_X9_hang (hstk := rfl) (hlen := rfl) (hcat := Nat.le_of_ble_eq_true rfl) (isC := [0, 1, 2, 3, 4, 5]) (isR := []) (wr := []) (hC := rfl) (hR := rfl) (hnC := rfl) (hn := rfl) (hdis := by decide) (hR1 := ⟨Nat.le_of_ble_eq_true rfl, Nat.le_of_ble_eq_true rfl⟩) (hcs := ⟨Nat.le_of_ble_eq_true rfl, Nat.le_of_ble_eq_true rfl⟩) (fun v_ w_ hp_ => ?_)
          obtain ⟨n2_52, fb2_52, xs2_52, rfl, rfl, g52_l, g52_s, g52_o, g52_p, g52_b⟩ := hp_
          replace g52_l : xs2_52.length = n2_52 := g52_l
          replace g52_s : LsA fb2_52 xs2_52 := g52_s
          replace g52_o : xs2_52.Pairwise (· ≤ ·) := g52_o
          replace g52_p : xs2_52.Perm (hg lf lt (m - 1) tree g ++ xs) := g52_p
          replace g52_b : ∀ x_ ∈ xs2_52, x_ < 16384 := g52_b
          show Wx _ _ _ _ _ _ _ _ _ _ _ _ _ _ _ _ 55 [(5, .int (iI (5 - ((popc tree : Nat) : Int)))), (0, .ref k), (1, .int (iI link)), (2, .int (iI (tree : Int))), (3, .int (iI (g : Int))), (4, .ref h)] [] [(k, ob 8 [.ref lk, .int (iI s0), .ref lk]), (lk, ob 2 [.ref la_, .ref lb_, .int (iI (nl : Int)), .ref lf_, .ref lt_]), (lf_, ia E 14 lf), (lt_, ia E 14 lt), (h, ob 7 [.ref hb, .ref ha, .ref hc, .int (iI (n2_52 : Int)), .int (iI sg)]), (hb, ia E 2002 fb2_52)]
          refine x_iload_n (pc' := 56) C 4 dX9_hang_55 rfl rfl ?_
          refine x_aload_n (pc' := 57) C 1 dX9_hang_56 rfl rfl ?_
          refine x_get (pc' := 60) C dX9_hang_57 rfl ff_X9_9_8 0 rfl rfl ?_
          refine x_get (pc' := 63) C dX9_hang_60 rfl ff_X9_38_2 1 rfl rfl ?_
          refine x_iload_n (pc' := 64) C 2 dX9_hang_63 rfl rfl ?_
          refine x_iald (pc' := 65) C (m - 1) dX9_hang_64 rfl 2 rfl (by omega) (by omega) (by omega) ?_
          refine x_top (b := .int (iI (((lf (m - 1)).toNat : Nat) : Int))) (by congr 2; omega) ?_
          refine x_callS (pc' := 68) (As := [.int (iI (g : Int)), .int (iI (((lf (m - 1)).toNat : Nat) : Int))]) (rest := []) C cs_X9_42 dX9_hang_65 rfl (c_X9_groupOf l E g ((lf (m - 1)).toNat) (show g < 1000000 from by omega) (show ((lf (m - 1)).toNat) ≤ 5 from by omega)) mm_X9_groupOf (hstk := rfl) (hlen := rfl) (hcat := Nat.le_of_ble_eq_true rfl) (isC := []) (isR := [0, 1, 2, 3, 4, 5]) (wr := [(k, ob 8 [.ref lk, .int (iI s0), .ref lk]), (lk, ob 2 [.ref la_, .ref lb_, .int (iI (nl : Int)), .ref lf_, .ref lt_]), (lf_, ia E 14 lf), (lt_, ia E 14 lt), (h, ob 7 [.ref hb, .ref ha, .ref hc, .int (iI (n2_52 : Int)), .int (iI sg)]), (hb, ia E 2002 fb2_52)]) (hC := rfl) (hR := rfl) (hnC := rfl) (hn := rfl) (hdis := by decide) (hR1 := ⟨Nat.le_of_ble_eq_true rfl, Nat.le_of_ble_eq_true rfl⟩) (hcs := ⟨Nat.le_of_ble_eq_true rfl, Nat.le_of_ble_eq_true rfl⟩) (fun v_ w_ hp_ => ?_)
          obtain ⟨rfl, rfl⟩ := hp_
          show Wx _ _ _ _ _ _ _ _ _ _ _ _ _ _ _ _ 68 [(5, .int (iI (5 - ((popc tree : Nat) : Int)))), (0, .ref k), (1, .int (iI link)), (2, .int (iI (tree : Int))), (3, .int (iI (g : Int))), (4, .ref h)] [.int (iI ((grp g ((lf (m - 1)).toNat) : Nat) : Int))] [(k, ob 8 [.ref lk, .int (iI s0), .ref lk]), (lk, ob 2 [.ref la_, .ref lb_, .int (iI (nl : Int)), .ref lf_, .ref lt_]), (lf_, ia E 14 lf), (lt_, ia E 14 lt), (h, ob 7 [.ref hb, .ref ha, .ref hc, .int (iI (n2_52 : Int)), .int (iI sg)]), (hb, ia E 2002 fb2_52)]
          refine x_istore (pc' := 70) (lv' := [(6, .int (iI ((grp g ((lf (m - 1)).toNat) : Nat) : Int))), (5, .int (iI (5 - ((popc tree : Nat) : Int)))), (0, .ref k), (1, .int (iI link)), (2, .int (iI (tree : Int))), (3, .int (iI (g : Int))), (4, .ref h)]) C dX9_hang_68 rfl (by decide) rfl ?_
          refine x_iload_n (pc' := 71) C 5 dX9_hang_70 rfl rfl ?_
          refine x_aload_n (pc' := 72) C 2 dX9_hang_71 rfl rfl ?_
          refine x_get (pc' := 75) C dX9_hang_72 rfl ff_X9_9_8 0 rfl rfl ?_
          refine x_get (pc' := 78) C dX9_hang_75 rfl ff_X9_46_2 1 rfl rfl ?_
          refine x_iload_n (pc' := 79) C 3 dX9_hang_78 rfl rfl ?_
          refine x_iald (pc' := 80) C (m - 1) dX9_hang_79 rfl 3 rfl (by omega) (by omega) (by omega) ?_
          refine x_top (b := .int (iI (((lt (m - 1)).toNat : Nat) : Int))) (by congr 2; omega) ?_
          refine x_callS (pc' := 83) (As := [.int (iI (g : Int)), .int (iI (((lt (m - 1)).toNat : Nat) : Int))]) (rest := []) C cs_X9_42 dX9_hang_80 rfl (c_X9_groupOf l E g ((lt (m - 1)).toNat) (show g < 1000000 from by omega) (show ((lt (m - 1)).toNat) ≤ 5 from by omega)) mm_X9_groupOf (hstk := rfl) (hlen := rfl) (hcat := Nat.le_of_ble_eq_true rfl) (isC := []) (isR := [0, 1, 2, 3, 4, 5]) (wr := [(k, ob 8 [.ref lk, .int (iI s0), .ref lk]), (lk, ob 2 [.ref la_, .ref lb_, .int (iI (nl : Int)), .ref lf_, .ref lt_]), (lf_, ia E 14 lf), (lt_, ia E 14 lt), (h, ob 7 [.ref hb, .ref ha, .ref hc, .int (iI (n2_52 : Int)), .int (iI sg)]), (hb, ia E 2002 fb2_52)]) (hC := rfl) (hR := rfl) (hnC := rfl) (hn := rfl) (hdis := by decide) (hR1 := ⟨Nat.le_of_ble_eq_true rfl, Nat.le_of_ble_eq_true rfl⟩) (hcs := ⟨Nat.le_of_ble_eq_true rfl, Nat.le_of_ble_eq_true rfl⟩) (fun v_ w_ hp_ => ?_)
          obtain ⟨rfl, rfl⟩ := hp_
          show Wx _ _ _ _ _ _ _ _ _ _ _ _ _ _ _ _ 83 [(6, .int (iI ((grp g ((lf (m - 1)).toNat) : Nat) : Int))), (5, .int (iI (5 - ((popc tree : Nat) : Int)))), (0, .ref k), (1, .int (iI link)), (2, .int (iI (tree : Int))), (3, .int (iI (g : Int))), (4, .ref h)] [.int (iI ((grp g ((lt (m - 1)).toNat) : Nat) : Int))] [(k, ob 8 [.ref lk, .int (iI s0), .ref lk]), (lk, ob 2 [.ref la_, .ref lb_, .int (iI (nl : Int)), .ref lf_, .ref lt_]), (lf_, ia E 14 lf), (lt_, ia E 14 lt), (h, ob 7 [.ref hb, .ref ha, .ref hc, .int (iI (n2_52 : Int)), .int (iI sg)]), (hb, ia E 2002 fb2_52)]
          refine x_istore (pc' := 85) (lv' := [(7, .int (iI ((grp g ((lt (m - 1)).toNat) : Nat) : Int))), (6, .int (iI ((grp g ((lf (m - 1)).toNat) : Nat) : Int))), (5, .int (iI (5 - ((popc tree : Nat) : Int)))), (0, .ref k), (1, .int (iI link)), (2, .int (iI (tree : Int))), (3, .int (iI (g : Int))), (4, .ref h)]) C dX9_hang_83 rfl (by decide) rfl ?_
          refine x_iload (pc' := 87) C 1 dX9_hang_85 rfl rfl ?_
          refine x_iload (pc' := 89) C 0 dX9_hang_87 rfl rfl ?_
          refine x_icmp_eq (pc' := 92) (tgt := 114) C dX9_hang_89 rfl (by decide) (by omega) (by omega) (fun c89 => ?_) (fun c89 => ?_)
          ·
            exact x_vret C hr dX9_hang_114 ⟨n2_52, fb2_52, xs2_52, rfl, rfl, (show xs2_52.length = n2_52 from g52_l), (show LsA fb2_52 xs2_52 from g52_s), (show xs2_52.Pairwise (· ≤ ·) from g52_o), (show xs2_52.Perm (hg lf lt m tree g ++ xs) from two_perm (W := []) (by rw [hV, if_pos (by omega)]) g52_p (List.Perm.refl _)), (show ∀ x_ ∈ xs2_52, x_ < 16384 from g52_b)⟩
          ·
            have hV2 := hV
            rw [if_neg (by omega)] at hV2
            refine x_aload_n (pc' := 93) C 3 dX9_hang_92 rfl rfl ?_
            refine x_iload_n (pc' := 94) C 4 dX9_hang_93 rfl rfl ?_
            refine x_iconst (pc' := 95) C dX9_hang_94 rfl ?_
            refine x_isub (pc' := 96) C dX9_hang_95 rfl ?_
            refine x_iload_n (pc' := 97) C 5 dX9_hang_96 rfl rfl ?_
            refine x_iconst (pc' := 98) C dX9_hang_97 rfl ?_
            refine x_iload_n (pc' := 99) C 4 dX9_hang_98 rfl rfl ?_
            refine x_ishl (pc' := 100) (z := (iI ((2 ^ (m - 1) : Nat) : Int))) C dX9_hang_99 rfl (by rw [show link = ((m - 1 : Nat) : Int) by omega]; exact bt_shl (by omega)) ?_
            refine x_ior (pc' := 101) (z := (iI ((tree ||| 2 ^ (m - 1) : Nat) : Int))) C dX9_hang_100 rfl (bt_or _ _) ?_
            refine x_iload_n (pc' := 102) C 6 dX9_hang_101 rfl rfl ?_
            refine x_iload (pc' := 104) C 1 dX9_hang_102 rfl rfl ?_
            refine x_iload (pc' := 106) C 0 dX9_hang_104 rfl rfl ?_
            refine x_callS (pc' := 109) (As := [.int (iI (g : Int)), .int (iI ((grp g ((lf (m - 1)).toNat) : Nat) : Int)), .int (iI ((grp g ((lt (m - 1)).toNat) : Nat) : Int))]) (rest := [.int (iI ((tree ||| 2 ^ (m - 1) : Nat) : Int)), .int (iI (link - 1)), .ref k]) C cs_X9_49 dX9_hang_106 rfl (c_X9_unite l E g (grp g ((lf (m - 1)).toNat)) (grp g ((lt (m - 1)).toNat)) (show g < 262144 from by omega) (show (grp g ((lf (m - 1)).toNat)) ≤ 7 from by omega) (show (grp g ((lt (m - 1)).toNat)) ≤ 7 from by omega)) mm_X9_unite (hstk := rfl) (hlen := rfl) (hcat := Nat.le_of_ble_eq_true rfl) (isC := []) (isR := [0, 1, 2, 3, 4, 5]) (wr := [(k, ob 8 [.ref lk, .int (iI s0), .ref lk]), (lk, ob 2 [.ref la_, .ref lb_, .int (iI (nl : Int)), .ref lf_, .ref lt_]), (lf_, ia E 14 lf), (lt_, ia E 14 lt), (h, ob 7 [.ref hb, .ref ha, .ref hc, .int (iI (n2_52 : Int)), .int (iI sg)]), (hb, ia E 2002 fb2_52)]) (hC := rfl) (hR := rfl) (hnC := rfl) (hn := rfl) (hdis := by decide) (hR1 := ⟨Nat.le_of_ble_eq_true rfl, Nat.le_of_ble_eq_true rfl⟩) (hcs := ⟨Nat.le_of_ble_eq_true rfl, Nat.le_of_ble_eq_true rfl⟩) (fun v_ w_ hp_ => ?_)
            obtain ⟨rfl, rfl⟩ := hp_
            show Wx _ _ _ _ _ _ _ _ _ _ _ _ _ _ _ _ 109 [(7, .int (iI ((grp g ((lt (m - 1)).toNat) : Nat) : Int))), (6, .int (iI ((grp g ((lf (m - 1)).toNat) : Nat) : Int))), (5, .int (iI (5 - ((popc tree : Nat) : Int)))), (0, .ref k), (1, .int (iI link)), (2, .int (iI (tree : Int))), (3, .int (iI (g : Int))), (4, .ref h)] [.int (iI ((unt g (grp g ((lf (m - 1)).toNat)) (grp g ((lt (m - 1)).toNat)) 6 : Nat) : Int)), .int (iI ((tree ||| 2 ^ (m - 1) : Nat) : Int)), .int (iI (link - 1)), .ref k] [(k, ob 8 [.ref lk, .int (iI s0), .ref lk]), (lk, ob 2 [.ref la_, .ref lb_, .int (iI (nl : Int)), .ref lf_, .ref lt_]), (lf_, ia E 14 lf), (lt_, ia E 14 lt), (h, ob 7 [.ref hb, .ref ha, .ref hc, .int (iI (n2_52 : Int)), .int (iI sg)]), (hb, ia E 2002 fb2_52)]
            refine x_aload (pc' := 111) C 7 dX9_hang_109 rfl rfl ?_
            refine x_callV (pc' := 114) (As := [.int (iI (link - 1)), .int (iI ((tree ||| 2 ^ (m - 1) : Nat) : Int)), .int (iI ((unt g (grp g ((lf (m - 1)).toNat)) (grp g ((lt (m - 1)).toNat)) 6 : Nat) : Int)), .ref h]) (rest := []) (q0 := 0) C rfl rfl cv_X9_22_X9 dX9_hang_111 rfl (c_X9_hang_7 l E k lk la_ lb_ lf_ lt_ nl s0 lf lt h hb ha hc sg fb2_52 n2_52 (m - 1) (tree ||| 2 ^ (m - 1)) (unt g (grp g ((lf (m - 1)).toNat)) (grp g ((lt (m - 1)).toNat)) 6) (link - 1) xs2_52 (show nl ≤ 14 from by omega) (show ∀ j_ : Nat, j_ < nl → 0 ≤ lf j_ ∧ lf j_ ≤ 5 from hlf) (show ∀ j_ : Nat, j_ < nl → 0 ≤ lt j_ ∧ lt j_ ≤ 5 from hlt) (show (hg lf lt (m - 1) (tree ||| 2 ^ (m - 1)) (unt g (grp g ((lf (m - 1)).toNat)) (grp g ((lt (m - 1)).toNat)) 6)).length + xs2_52.length ≤ 2002 from by have hq_ := g52_p.length_eq; rw [List.length_append] at hq_; rw [hV2, List.length_append] at hcap; omega) (show ((link - 1) + 1).toNat = (m - 1) ∧ -1 ≤ (link - 1) from by omega) (show (m - 1) ≤ 7 ∧ (m - 1) ≤ nl from by omega) (show (tree ||| 2 ^ (m - 1)) < 16384 from or_bd (N := 14) htr (by omega)) (show (unt g (grp g ((lf (m - 1)).toNat)) (grp g ((lt (m - 1)).toNat)) 6) < 262144 from unt_bd (g := g) hgg (grp_le _ _) (grp_le _ _) 6 (by decide)) (show xs2_52.length = n2_52 from g52_l) (show LsA fb2_52 xs2_52 from g52_s) (show xs2_52.Pairwise (· ≤ ·) from g52_o) (show ∀ x_ ∈ xs2_52, x_ < 16384 from g52_b)) mm_X9_hang (hstk := rfl) (hlen := rfl) (hcat := Nat.le_of_ble_eq_true rfl) (isC := [0, 1, 2, 3, 4, 5]) (isR := []) (wr := []) (hC := rfl) (hR := rfl) (hnC := rfl) (hn := rfl) (hdis := by decide) (hR1 := ⟨Nat.le_of_ble_eq_true rfl, Nat.le_of_ble_eq_true rfl⟩) (hcs := ⟨Nat.le_of_ble_eq_true rfl, Nat.le_of_ble_eq_true rfl⟩) (fun v_ w_ hp_ => ?_)
            obtain ⟨n2_111, fb2_111, xs2_111, rfl, rfl, g111_l, g111_s, g111_o, g111_p, g111_b⟩ := hp_
            replace g111_l : xs2_111.length = n2_111 := g111_l
            replace g111_s : LsA fb2_111 xs2_111 := g111_s
            replace g111_o : xs2_111.Pairwise (· ≤ ·) := g111_o
            replace g111_p : xs2_111.Perm (hg lf lt (m - 1) (tree ||| 2 ^ (m - 1)) (unt g (grp g ((lf (m - 1)).toNat)) (grp g ((lt (m - 1)).toNat)) 6) ++ xs2_52) := g111_p
            replace g111_b : ∀ x_ ∈ xs2_111, x_ < 16384 := g111_b
            show Wx _ _ _ _ _ _ _ _ _ _ _ _ _ _ _ _ 114 [(7, .int (iI ((grp g ((lt (m - 1)).toNat) : Nat) : Int))), (6, .int (iI ((grp g ((lf (m - 1)).toNat) : Nat) : Int))), (5, .int (iI (5 - ((popc tree : Nat) : Int)))), (0, .ref k), (1, .int (iI link)), (2, .int (iI (tree : Int))), (3, .int (iI (g : Int))), (4, .ref h)] [] [(k, ob 8 [.ref lk, .int (iI s0), .ref lk]), (lk, ob 2 [.ref la_, .ref lb_, .int (iI (nl : Int)), .ref lf_, .ref lt_]), (lf_, ia E 14 lf), (lt_, ia E 14 lt), (h, ob 7 [.ref hb, .ref ha, .ref hc, .int (iI (n2_111 : Int)), .int (iI sg)]), (hb, ia E 2002 fb2_111)]
            exact x_vret C hr dX9_hang_114 ⟨n2_111, fb2_111, xs2_111, rfl, rfl, (show xs2_111.length = n2_111 from g111_l), (show LsA fb2_111 xs2_111 from g111_s), (show xs2_111.Pairwise (· ≤ ·) from g111_o), (show xs2_111.Perm (hg lf lt m tree g ++ xs) from two_perm hV2 g52_p g111_p), (show ∀ x_ ∈ xs2_111, x_ < 16384 from g111_b)⟩
        ·
          exact x_vret C hr dX9_hang_43 ⟨n, fb, xs, rfl, rfl, (show xs.length = n from hlen), (show LsA fb xs from hls), (show xs.Pairwise (· ≤ ·) from hso), (show xs.Perm (hg lf lt m tree g ++ xs) from by rw [hg_0 (by omega) (by omega)]; exact List.Perm.refl _), (show ∀ x_ ∈ xs, x_ < 16384 from hbd)⟩
  ·
    refine x_aload (pc' := 15) C 5 dX9_hang_13 rfl rfl ?_
    refine x_iload_n (pc' := 16) C 3 dX9_hang_15 rfl rfl ?_
    refine x_callV (pc' := 19) (As := [.int (iI (tree : Int))]) (rest := []) (q0 := 0) C rfl rfl cv_X9_32_X8 dX9_hang_16 rfl (c_X8_insert l E h hb ha hc n tree sg fb xs (show n < 2002 from by rw [hg_5 (show popc tree = 5 by omega), List.length_singleton] at hcap; omega) (show tree < 1000000 from by omega) (show xs.length = n from hlen) (show LsA fb xs from hls) (show xs.Pairwise (· ≤ ·) from hso) (show ∀ j (h : j < xs.length), xs[j] < 1000000 from get_bd (fun x_ hx_ => Nat.lt_trans (hbd x_ hx_) (by decide)))) mm_X8_insert (hstk := rfl) (hlen := rfl) (hcat := Nat.le_of_ble_eq_true rfl) (isC := [4, 5]) (isR := [0, 1, 2, 3]) (wr := [(k, ob 8 [.ref lk, .int (iI s0), .ref lk]), (lk, ob 2 [.ref la_, .ref lb_, .int (iI (nl : Int)), .ref lf_, .ref lt_]), (lf_, ia E 14 lf), (lt_, ia E 14 lt)]) (hC := rfl) (hR := rfl) (hnC := rfl) (hn := rfl) (hdis := by decide) (hR1 := ⟨Nat.le_of_ble_eq_true rfl, Nat.le_of_ble_eq_true rfl⟩) (hcs := ⟨Nat.le_of_ble_eq_true rfl, Nat.le_of_ble_eq_true rfl⟩) (fun v_ w_ hp_ => ?_)
    obtain ⟨fb2_16, xs2_16, rfl, rfl, g16_l, g16_s, g16_o, g16_p⟩ := hp_
    replace g16_l : xs2_16.length = n + 1 := g16_l
    replace g16_s : LsA fb2_16 xs2_16 := g16_s
    replace g16_o : xs2_16.Pairwise (· ≤ ·) := g16_o
    replace g16_p : xs2_16.Perm (tree :: xs) := g16_p
    show Wx _ _ _ _ _ _ _ _ _ _ _ _ _ _ _ _ 19 [(5, .int (iI (5 - ((popc tree : Nat) : Int)))), (0, .ref k), (1, .int (iI link)), (2, .int (iI (tree : Int))), (3, .int (iI (g : Int))), (4, .ref h)] [] [(k, ob 8 [.ref lk, .int (iI s0), .ref lk]), (lk, ob 2 [.ref la_, .ref lb_, .int (iI (nl : Int)), .ref lf_, .ref lt_]), (lf_, ia E 14 lf), (lt_, ia E 14 lt), (h, ob 7 [.ref hb, .ref ha, .ref hc, .int (iI ((n + 1 : Nat) : Int)), .int (iI sg)]), (hb, ia E 2002 fb2_16)]
    exact x_vret C hr dX9_hang_19 ⟨(n + 1), fb2_16, xs2_16, rfl, rfl, (show xs2_16.length = (n + 1) from g16_l), (show LsA fb2_16 xs2_16 from g16_s), (show xs2_16.Pairwise (· ≤ ·) from g16_o), (show xs2_16.Perm (hg lf lt m tree g ++ xs) from by rw [hg_5 (show popc tree = 5 by omega)]; exact g16_p), (show ∀ x_ ∈ xs2_16, x_ < 16384 from mem_bd (L := [tree]) g16_p (one_bd htr) hbd)⟩

set_option maxHeartbeats 4000000 in
set_option maxRecDepth 100000 in
theorem c_X9_hang_9 (l : Launch) (E : EV) (k : Nat) (lk : Nat) (la_ : Nat) (lb_ : Nat) (lf_ : Nat) (lt_ : Nat) (nl : Nat) (s0 : Int) (lf : Nat → Int) (lt : Nat → Int) (h : Nat) (hb : Nat) (ha : Nat) (hc : Nat) (sg : Int) (fb : Nat → Int) (n : Nat) (m : Nat) (tree : Nat) (g : Nat) (link : Int) (xs : List Nat) (hnl : nl ≤ 14) (hlf : ∀ j_ : Nat, j_ < nl → 0 ≤ lf j_ ∧ lf j_ ≤ 5) (hlt : ∀ j_ : Nat, j_ < nl → 0 ≤ lt j_ ∧ lt j_ ≤ 5) (hcap : (hg lf lt m tree g).length + xs.length ≤ 2002) (hm : (link + 1).toNat = m ∧ -1 ≤ link) (hmL : m ≤ 9 ∧ m ≤ nl) (htr : tree < 16384) (hgg : g < 262144) (hlen : xs.length = n) (hls : LsA fb xs) (hso : xs.Pairwise (· ≤ ·)) (hbd : ∀ x_ ∈ xs, x_ < 16384) : MC l E yX9_hang cX9_hang 8 (none) ({ frames := 10, cells := 0, slots := 0, locals := 265 }) [.ref k, .int (iI link), .int (iI (tree : Int)), .int (iI (g : Int)), .ref h] [(k, ob 8 [.ref lk, .int (iI s0), .ref lk]), (lk, ob 2 [.ref la_, .ref lb_, .int (iI (nl : Int)), .ref lf_, .ref lt_]), (lf_, ia E 14 lf), (lt_, ia E 14 lt), (h, ob 7 [.ref hb, .ref ha, .ref hc, .int (iI (n : Int)), .int (iI sg)]), (hb, ia E 2002 fb)] (fun v_ w_ => ∃ (n2 : Nat) (fb2 : Nat → Int) (xs2 : List Nat), v_ = none ∧ w_ = [(k, ob 8 [.ref lk, .int (iI s0), .ref lk]), (lk, ob 2 [.ref la_, .ref lb_, .int (iI (nl : Int)), .ref lf_, .ref lt_]), (lf_, ia E 14 lf), (lt_, ia E 14 lt), (h, ob 7 [.ref hb, .ref ha, .ref hc, .int (iI (n2 : Int)), .int (iI sg)]), (hb, ia E 2002 fb2)] ∧ (xs2.length = n2) ∧ (LsA fb2 xs2) ∧ (xs2.Pairwise (· ≤ ·)) ∧ (xs2.Perm (hg lf lt m tree g ++ xs)) ∧ (∀ x_ ∈ xs2, x_ < 16384)) := by
  refine MC.of (by decide +kernel) (Nat.le_of_ble_eq_true rfl) ?_
  intro p_ e_ s_ m_ args_ below_ meth_ c_ A_ C hr hnm
  have C : Cx p_ s_ m_ args_ meth_ c_ E A_ 8 cX9_hang RX9 := C
  have hpc := popc_le tree
  show Wx _ _ _ _ _ _ _ _ _ _ _ _ _ _ _ _ 0 [(0, .ref k), (1, .int (iI link)), (2, .int (iI (tree : Int))), (3, .int (iI (g : Int))), (4, .ref h)] [] [(k, ob 8 [.ref lk, .int (iI s0), .ref lk]), (lk, ob 2 [.ref la_, .ref lb_, .int (iI (nl : Int)), .ref lf_, .ref lt_]), (lf_, ia E 14 lf), (lt_, ia E 14 lt), (h, ob 7 [.ref hb, .ref ha, .ref hc, .int (iI (n : Int)), .int (iI sg)]), (hb, ia E 2002 fb)]
  refine x_iconst (pc' := 1) C dX9_hang_0 rfl ?_
  refine x_iload_n (pc' := 2) C 2 dX9_hang_1 rfl rfl ?_
  refine x_callS (pc' := 5) (As := [.int (iI (tree : Int))]) (rest := [.int (iI 5)]) C cs_X9_26 dX9_hang_2 rfl (c_J6_bitCount_0f7a4 l E tree (show tree < 1000000 from by omega)) mm_J6_bitCount_0f7a4 (hstk := rfl) (hlen := rfl) (hcat := Nat.le_of_ble_eq_true rfl) (isC := []) (isR := [0, 1, 2, 3, 4, 5]) (wr := [(k, ob 8 [.ref lk, .int (iI s0), .ref lk]), (lk, ob 2 [.ref la_, .ref lb_, .int (iI (nl : Int)), .ref lf_, .ref lt_]), (lf_, ia E 14 lf), (lt_, ia E 14 lt), (h, ob 7 [.ref hb, .ref ha, .ref hc, .int (iI (n : Int)), .int (iI sg)]), (hb, ia E 2002 fb)]) (hC := rfl) (hR := rfl) (hnC := rfl) (hn := rfl) (hdis := by decide) (hR1 := ⟨Nat.le_of_ble_eq_true rfl, Nat.le_of_ble_eq_true rfl⟩) (hcs := ⟨Nat.le_of_ble_eq_true rfl, Nat.le_of_ble_eq_true rfl⟩) (fun v_ w_ hp_ => ?_)
  obtain ⟨rfl, rfl⟩ := hp_
  show Wx _ _ _ _ _ _ _ _ _ _ _ _ _ _ _ _ 5 [(0, .ref k), (1, .int (iI link)), (2, .int (iI (tree : Int))), (3, .int (iI (g : Int))), (4, .ref h)] [.int (iI ((popc tree : Nat) : Int)), .int (iI 5)] [(k, ob 8 [.ref lk, .int (iI s0), .ref lk]), (lk, ob 2 [.ref la_, .ref lb_, .int (iI (nl : Int)), .ref lf_, .ref lt_]), (lf_, ia E 14 lf), (lt_, ia E 14 lt), (h, ob 7 [.ref hb, .ref ha, .ref hc, .int (iI (n : Int)), .int (iI sg)]), (hb, ia E 2002 fb)]
  refine x_isub (pc' := 6) C dX9_hang_5 rfl ?_
  refine x_istore (pc' := 8) (lv' := [(5, .int (iI (5 - ((popc tree : Nat) : Int)))), (0, .ref k), (1, .int (iI link)), (2, .int (iI (tree : Int))), (3, .int (iI (g : Int))), (4, .ref h)]) C dX9_hang_6 rfl (by decide) rfl ?_
  refine x_iload (pc' := 10) C 0 dX9_hang_8 rfl rfl ?_
  refine x_if_ne (pc' := 13) (tgt := 20) C dX9_hang_10 rfl (by decide) (by omega) (fun c10 => ?_) (fun c10 => ?_)
  ·
    refine x_iload_n (pc' := 21) C 2 dX9_hang_20 rfl rfl ?_
    refine x_if_lt (pc' := 24) (tgt := 43) C dX9_hang_21 rfl (by decide) (by omega) (fun c21 => ?_) (fun c21 => ?_)
    ·
      exact x_vret C hr dX9_hang_43 ⟨n, fb, xs, rfl, rfl, (show xs.length = n from hlen), (show LsA fb xs from hls), (show xs.Pairwise (· ≤ ·) from hso), (show xs.Perm (hg lf lt m tree g ++ xs) from by rw [hg_0 (by omega) (by omega)]; exact List.Perm.refl _), (show ∀ x_ ∈ xs, x_ < 16384 from hbd)⟩
    ·
      refine x_iload_n (pc' := 25) C 2 dX9_hang_24 rfl rfl ?_
      refine x_aload_n (pc' := 26) C 1 dX9_hang_25 rfl rfl ?_
      refine x_get (pc' := 29) C dX9_hang_26 rfl ff_X9_9_8 0 rfl rfl ?_
      refine x_get (pc' := 32) C dX9_hang_29 rfl ff_X9_15_2 1 rfl rfl ?_
      refine x_icmp_ge (pc' := 35) (tgt := 43) C dX9_hang_32 rfl (by decide) (by omega) (by omega) (fun c32 => ?_) (fun c32 => ?_)
      ·
        exact absurd c32 (by omega)
      ·
        refine x_iload_n (pc' := 36) C 2 dX9_hang_35 rfl rfl ?_
        refine x_iconst (pc' := 37) C dX9_hang_36 rfl ?_
        refine x_iadd (pc' := 38) C dX9_hang_37 rfl ?_
        refine x_iload (pc' := 40) C 0 dX9_hang_38 rfl rfl ?_
        refine x_icmp_ge (pc' := 43) (tgt := 44) C dX9_hang_40 rfl (by decide) (by omega) (by omega) (fun c40 => ?_) (fun c40 => ?_)
        ·
          have hV := hg_s (lf := lf) (lt := lt) (m := m) (tree := tree) (g := g) (by omega) (by omega) (by omega)
          have hf1 := hlf (m - 1) (by omega)
          have ht1 := hlt (m - 1) (by omega)
          have hga := grp_le g (lf (m - 1)).toNat
          have hgb := grp_le g (lt (m - 1)).toNat
          refine x_aload_n (pc' := 45) C 1 dX9_hang_44 rfl rfl ?_
          refine x_iload_n (pc' := 46) C 2 dX9_hang_45 rfl rfl ?_
          refine x_iconst (pc' := 47) C dX9_hang_46 rfl ?_
          refine x_isub (pc' := 48) C dX9_hang_47 rfl ?_
          refine x_iload_n (pc' := 49) C 3 dX9_hang_48 rfl rfl ?_
          refine x_iload_n (pc' := 50) C 4 dX9_hang_49 rfl rfl ?_
          refine x_aload (pc' := 52) C 5 dX9_hang_50 rfl rfl ?_
          refine x_callV (pc' := 55) (As := [.int (iI (link - 1)), .int (iI (tree : Int)), .int (iI (g : Int)), .ref h]) (rest := []) (q0 := 0) C rfl rfl cv_X9_22_X9 dX9_hang_52 rfl (c_X9_hang_8 l E k lk la_ lb_ lf_ lt_ nl s0 lf lt h hb ha hc sg fb n (m - 1) tree g (link - 1) xs (show nl ≤ 14 from by omega) (show ∀ j_ : Nat, j_ < nl → 0 ≤ lf j_ ∧ lf j_ ≤ 5 from hlf) (show ∀ j_ : Nat, j_ < nl → 0 ≤ lt j_ ∧ lt j_ ≤ 5 from hlt) (show (hg lf lt (m - 1) tree g).length + xs.length ≤ 2002 from by rw [hV, List.length_append] at hcap; omega) (show ((link - 1) + 1).toNat = (m - 1) ∧ -1 ≤ (link - 1) from by omega) (show (m - 1) ≤ 8 ∧ (m - 1) ≤ nl from by omega) (show tree < 16384 from htr) (show g < 262144 from hgg) (show xs.length = n from hlen) (show LsA fb xs from hls) (show xs.Pairwise (· ≤ ·) from hso) (show ∀ x_ ∈ xs, x_ < 16384 from hbd)) mm_X9_hang (hstk := rfl) (hlen := rfl) (hcat := Nat.le_of_ble_eq_true rfl) (isC := [0, 1, 2, 3, 4, 5]) (isR := []) (wr := []) (hC := rfl) (hR := rfl) (hnC := rfl) (hn := rfl) (hdis := by decide) (hR1 := ⟨Nat.le_of_ble_eq_true rfl, Nat.le_of_ble_eq_true rfl⟩) (hcs := ⟨Nat.le_of_ble_eq_true rfl, Nat.le_of_ble_eq_true rfl⟩) (fun v_ w_ hp_ => ?_)
          obtain ⟨n2_52, fb2_52, xs2_52, rfl, rfl, g52_l, g52_s, g52_o, g52_p, g52_b⟩ := hp_
          replace g52_l : xs2_52.length = n2_52 := g52_l
          replace g52_s : LsA fb2_52 xs2_52 := g52_s
          replace g52_o : xs2_52.Pairwise (· ≤ ·) := g52_o
          replace g52_p : xs2_52.Perm (hg lf lt (m - 1) tree g ++ xs) := g52_p
          replace g52_b : ∀ x_ ∈ xs2_52, x_ < 16384 := g52_b
          show Wx _ _ _ _ _ _ _ _ _ _ _ _ _ _ _ _ 55 [(5, .int (iI (5 - ((popc tree : Nat) : Int)))), (0, .ref k), (1, .int (iI link)), (2, .int (iI (tree : Int))), (3, .int (iI (g : Int))), (4, .ref h)] [] [(k, ob 8 [.ref lk, .int (iI s0), .ref lk]), (lk, ob 2 [.ref la_, .ref lb_, .int (iI (nl : Int)), .ref lf_, .ref lt_]), (lf_, ia E 14 lf), (lt_, ia E 14 lt), (h, ob 7 [.ref hb, .ref ha, .ref hc, .int (iI (n2_52 : Int)), .int (iI sg)]), (hb, ia E 2002 fb2_52)]
          refine x_iload_n (pc' := 56) C 4 dX9_hang_55 rfl rfl ?_
          refine x_aload_n (pc' := 57) C 1 dX9_hang_56 rfl rfl ?_
          refine x_get (pc' := 60) C dX9_hang_57 rfl ff_X9_9_8 0 rfl rfl ?_
          refine x_get (pc' := 63) C dX9_hang_60 rfl ff_X9_38_2 1 rfl rfl ?_
          refine x_iload_n (pc' := 64) C 2 dX9_hang_63 rfl rfl ?_
          refine x_iald (pc' := 65) C (m - 1) dX9_hang_64 rfl 2 rfl (by omega) (by omega) (by omega) ?_
          refine x_top (b := .int (iI (((lf (m - 1)).toNat : Nat) : Int))) (by congr 2; omega) ?_
          refine x_callS (pc' := 68) (As := [.int (iI (g : Int)), .int (iI (((lf (m - 1)).toNat : Nat) : Int))]) (rest := []) C cs_X9_42 dX9_hang_65 rfl (c_X9_groupOf l E g ((lf (m - 1)).toNat) (show g < 1000000 from by omega) (show ((lf (m - 1)).toNat) ≤ 5 from by omega)) mm_X9_groupOf (hstk := rfl) (hlen := rfl) (hcat := Nat.le_of_ble_eq_true rfl) (isC := []) (isR := [0, 1, 2, 3, 4, 5]) (wr := [(k, ob 8 [.ref lk, .int (iI s0), .ref lk]), (lk, ob 2 [.ref la_, .ref lb_, .int (iI (nl : Int)), .ref lf_, .ref lt_]), (lf_, ia E 14 lf), (lt_, ia E 14 lt), (h, ob 7 [.ref hb, .ref ha, .ref hc, .int (iI (n2_52 : Int)), .int (iI sg)]), (hb, ia E 2002 fb2_52)]) (hC := rfl) (hR := rfl) (hnC := rfl) (hn := rfl) (hdis := by decide) (hR1 := ⟨Nat.le_of_ble_eq_true rfl, Nat.le_of_ble_eq_true rfl⟩) (hcs := ⟨Nat.le_of_ble_eq_true rfl, Nat.le_of_ble_eq_true rfl⟩) (fun v_ w_ hp_ => ?_)
          obtain ⟨rfl, rfl⟩ := hp_
          show Wx _ _ _ _ _ _ _ _ _ _ _ _ _ _ _ _ 68 [(5, .int (iI (5 - ((popc tree : Nat) : Int)))), (0, .ref k), (1, .int (iI link)), (2, .int (iI (tree : Int))), (3, .int (iI (g : Int))), (4, .ref h)] [.int (iI ((grp g ((lf (m - 1)).toNat) : Nat) : Int))] [(k, ob 8 [.ref lk, .int (iI s0), .ref lk]), (lk, ob 2 [.ref la_, .ref lb_, .int (iI (nl : Int)), .ref lf_, .ref lt_]), (lf_, ia E 14 lf), (lt_, ia E 14 lt), (h, ob 7 [.ref hb, .ref ha, .ref hc, .int (iI (n2_52 : Int)), .int (iI sg)]), (hb, ia E 2002 fb2_52)]
          refine x_istore (pc' := 70) (lv' := [(6, .int (iI ((grp g ((lf (m - 1)).toNat) : Nat) : Int))), (5, .int (iI (5 - ((popc tree : Nat) : Int)))), (0, .ref k), (1, .int (iI link)), (2, .int (iI (tree : Int))), (3, .int (iI (g : Int))), (4, .ref h)]) C dX9_hang_68 rfl (by decide) rfl ?_
          refine x_iload_n (pc' := 71) C 5 dX9_hang_70 rfl rfl ?_
          refine x_aload_n (pc' := 72) C 2 dX9_hang_71 rfl rfl ?_
          refine x_get (pc' := 75) C dX9_hang_72 rfl ff_X9_9_8 0 rfl rfl ?_
          refine x_get (pc' := 78) C dX9_hang_75 rfl ff_X9_46_2 1 rfl rfl ?_
          refine x_iload_n (pc' := 79) C 3 dX9_hang_78 rfl rfl ?_
          refine x_iald (pc' := 80) C (m - 1) dX9_hang_79 rfl 3 rfl (by omega) (by omega) (by omega) ?_
          refine x_top (b := .int (iI (((lt (m - 1)).toNat : Nat) : Int))) (by congr 2; omega) ?_
          refine x_callS (pc' := 83) (As := [.int (iI (g : Int)), .int (iI (((lt (m - 1)).toNat : Nat) : Int))]) (rest := []) C cs_X9_42 dX9_hang_80 rfl (c_X9_groupOf l E g ((lt (m - 1)).toNat) (show g < 1000000 from by omega) (show ((lt (m - 1)).toNat) ≤ 5 from by omega)) mm_X9_groupOf (hstk := rfl) (hlen := rfl) (hcat := Nat.le_of_ble_eq_true rfl) (isC := []) (isR := [0, 1, 2, 3, 4, 5]) (wr := [(k, ob 8 [.ref lk, .int (iI s0), .ref lk]), (lk, ob 2 [.ref la_, .ref lb_, .int (iI (nl : Int)), .ref lf_, .ref lt_]), (lf_, ia E 14 lf), (lt_, ia E 14 lt), (h, ob 7 [.ref hb, .ref ha, .ref hc, .int (iI (n2_52 : Int)), .int (iI sg)]), (hb, ia E 2002 fb2_52)]) (hC := rfl) (hR := rfl) (hnC := rfl) (hn := rfl) (hdis := by decide) (hR1 := ⟨Nat.le_of_ble_eq_true rfl, Nat.le_of_ble_eq_true rfl⟩) (hcs := ⟨Nat.le_of_ble_eq_true rfl, Nat.le_of_ble_eq_true rfl⟩) (fun v_ w_ hp_ => ?_)
          obtain ⟨rfl, rfl⟩ := hp_
          show Wx _ _ _ _ _ _ _ _ _ _ _ _ _ _ _ _ 83 [(6, .int (iI ((grp g ((lf (m - 1)).toNat) : Nat) : Int))), (5, .int (iI (5 - ((popc tree : Nat) : Int)))), (0, .ref k), (1, .int (iI link)), (2, .int (iI (tree : Int))), (3, .int (iI (g : Int))), (4, .ref h)] [.int (iI ((grp g ((lt (m - 1)).toNat) : Nat) : Int))] [(k, ob 8 [.ref lk, .int (iI s0), .ref lk]), (lk, ob 2 [.ref la_, .ref lb_, .int (iI (nl : Int)), .ref lf_, .ref lt_]), (lf_, ia E 14 lf), (lt_, ia E 14 lt), (h, ob 7 [.ref hb, .ref ha, .ref hc, .int (iI (n2_52 : Int)), .int (iI sg)]), (hb, ia E 2002 fb2_52)]
          refine x_istore (pc' := 85) (lv' := [(7, .int (iI ((grp g ((lt (m - 1)).toNat) : Nat) : Int))), (6, .int (iI ((grp g ((lf (m - 1)).toNat) : Nat) : Int))), (5, .int (iI (5 - ((popc tree : Nat) : Int)))), (0, .ref k), (1, .int (iI link)), (2, .int (iI (tree : Int))), (3, .int (iI (g : Int))), (4, .ref h)]) C dX9_hang_83 rfl (by decide) rfl ?_
          refine x_iload (pc' := 87) C 1 dX9_hang_85 rfl rfl ?_
          refine x_iload (pc' := 89) C 0 dX9_hang_87 rfl rfl ?_
          refine x_icmp_eq (pc' := 92) (tgt := 114) C dX9_hang_89 rfl (by decide) (by omega) (by omega) (fun c89 => ?_) (fun c89 => ?_)
          ·
            exact x_vret C hr dX9_hang_114 ⟨n2_52, fb2_52, xs2_52, rfl, rfl, (show xs2_52.length = n2_52 from g52_l), (show LsA fb2_52 xs2_52 from g52_s), (show xs2_52.Pairwise (· ≤ ·) from g52_o), (show xs2_52.Perm (hg lf lt m tree g ++ xs) from two_perm (W := []) (by rw [hV, if_pos (by omega)]) g52_p (List.Perm.refl _)), (show ∀ x_ ∈ xs2_52, x_ < 16384 from g52_b)⟩
          ·
            have hV2 := hV
            rw [if_neg (by omega)] at hV2
            refine x_aload_n (pc' := 93) C 3 dX9_hang_92 rfl rfl ?_
            refine x_iload_n (pc' := 94) C 4 dX9_hang_93 rfl rfl ?_
            refine x_iconst (pc' := 95) C dX9_hang_94 rfl ?_
            refine x_isub (pc' := 96) C dX9_hang_95 rfl ?_
            refine x_iload_n (pc' := 97) C 5 dX9_hang_96 rfl rfl ?_
            refine x_iconst (pc' := 98) C dX9_hang_97 rfl ?_
            refine x_iload_n (pc' := 99) C 4 dX9_hang_98 rfl rfl ?_
            refine x_ishl (pc' := 100) (z := (iI ((2 ^ (m - 1) : Nat) : Int))) C dX9_hang_99 rfl (by rw [show link = ((m - 1 : Nat) : Int) by omega]; exact bt_shl (by omega)) ?_
            refine x_ior (pc' := 101) (z := (iI ((tree ||| 2 ^ (m - 1) : Nat) : Int))) C dX9_hang_100 rfl (bt_or _ _) ?_
            refine x_iload_n (pc' := 102) C 6 dX9_hang_101 rfl rfl ?_
            refine x_iload (pc' := 104) C 1 dX9_hang_102 rfl rfl ?_
            refine x_iload (pc' := 106) C 0 dX9_hang_104 rfl rfl ?_
            refine x_callS (pc' := 109) (As := [.int (iI (g : Int)), .int (iI ((grp g ((lf (m - 1)).toNat) : Nat) : Int)), .int (iI ((grp g ((lt (m - 1)).toNat) : Nat) : Int))]) (rest := [.int (iI ((tree ||| 2 ^ (m - 1) : Nat) : Int)), .int (iI (link - 1)), .ref k]) C cs_X9_49 dX9_hang_106 rfl (c_X9_unite l E g (grp g ((lf (m - 1)).toNat)) (grp g ((lt (m - 1)).toNat)) (show g < 262144 from by omega) (show (grp g ((lf (m - 1)).toNat)) ≤ 7 from by omega) (show (grp g ((lt (m - 1)).toNat)) ≤ 7 from by omega)) mm_X9_unite (hstk := rfl) (hlen := rfl) (hcat := Nat.le_of_ble_eq_true rfl) (isC := []) (isR := [0, 1, 2, 3, 4, 5]) (wr := [(k, ob 8 [.ref lk, .int (iI s0), .ref lk]), (lk, ob 2 [.ref la_, .ref lb_, .int (iI (nl : Int)), .ref lf_, .ref lt_]), (lf_, ia E 14 lf), (lt_, ia E 14 lt), (h, ob 7 [.ref hb, .ref ha, .ref hc, .int (iI (n2_52 : Int)), .int (iI sg)]), (hb, ia E 2002 fb2_52)]) (hC := rfl) (hR := rfl) (hnC := rfl) (hn := rfl) (hdis := by decide) (hR1 := ⟨Nat.le_of_ble_eq_true rfl, Nat.le_of_ble_eq_true rfl⟩) (hcs := ⟨Nat.le_of_ble_eq_true rfl, Nat.le_of_ble_eq_true rfl⟩) (fun v_ w_ hp_ => ?_)
            obtain ⟨rfl, rfl⟩ := hp_
            show Wx _ _ _ _ _ _ _ _ _ _ _ _ _ _ _ _ 109 [(7, .int (iI ((grp g ((lt (m - 1)).toNat) : Nat) : Int))), (6, .int (iI ((grp g ((lf (m - 1)).toNat) : Nat) : Int))), (5, .int (iI (5 - ((popc tree : Nat) : Int)))), (0, .ref k), (1, .int (iI link)), (2, .int (iI (tree : Int))), (3, .int (iI (g : Int))), (4, .ref h)] [.int (iI ((unt g (grp g ((lf (m - 1)).toNat)) (grp g ((lt (m - 1)).toNat)) 6 : Nat) : Int)), .int (iI ((tree ||| 2 ^ (m - 1) : Nat) : Int)), .int (iI (link - 1)), .ref k] [(k, ob 8 [.ref lk, .int (iI s0), .ref lk]), (lk, ob 2 [.ref la_, .ref lb_, .int (iI (nl : Int)), .ref lf_, .ref lt_]), (lf_, ia E 14 lf), (lt_, ia E 14 lt), (h, ob 7 [.ref hb, .ref ha, .ref hc, .int (iI (n2_52 : Int)), .int (iI sg)]), (hb, ia E 2002 fb2_52)]
            refine x_aload (pc' := 111) C 7 dX9_hang_109 rfl rfl ?_
            refine x_callV (pc' := 114) (As := [.int (iI (link - 1)), .int (iI ((tree ||| 2 ^ (m - 1) : Nat) : Int)), .int (iI ((unt g (grp g ((lf (m - 1)).toNat)) (grp g ((lt (m - 1)).toNat)) 6 : Nat) : Int)), .ref h]) (rest := []) (q0 := 0) C rfl rfl cv_X9_22_X9 dX9_hang_111 rfl (c_X9_hang_8 l E k lk la_ lb_ lf_ lt_ nl s0 lf lt h hb ha hc sg fb2_52 n2_52 (m - 1) (tree ||| 2 ^ (m - 1)) (unt g (grp g ((lf (m - 1)).toNat)) (grp g ((lt (m - 1)).toNat)) 6) (link - 1) xs2_52 (show nl ≤ 14 from by omega) (show ∀ j_ : Nat, j_ < nl → 0 ≤ lf j_ ∧ lf j_ ≤ 5 from hlf) (show ∀ j_ : Nat, j_ < nl → 0 ≤ lt j_ ∧ lt j_ ≤ 5 from hlt) (show (hg lf lt (m - 1) (tree ||| 2 ^ (m - 1)) (unt g (grp g ((lf (m - 1)).toNat)) (grp g ((lt (m - 1)).toNat)) 6)).length + xs2_52.length ≤ 2002 from by have hq_ := g52_p.length_eq; rw [List.length_append] at hq_; rw [hV2, List.length_append] at hcap; omega) (show ((link - 1) + 1).toNat = (m - 1) ∧ -1 ≤ (link - 1) from by omega) (show (m - 1) ≤ 8 ∧ (m - 1) ≤ nl from by omega) (show (tree ||| 2 ^ (m - 1)) < 16384 from or_bd (N := 14) htr (by omega)) (show (unt g (grp g ((lf (m - 1)).toNat)) (grp g ((lt (m - 1)).toNat)) 6) < 262144 from unt_bd (g := g) hgg (grp_le _ _) (grp_le _ _) 6 (by decide)) (show xs2_52.length = n2_52 from g52_l) (show LsA fb2_52 xs2_52 from g52_s) (show xs2_52.Pairwise (· ≤ ·) from g52_o) (show ∀ x_ ∈ xs2_52, x_ < 16384 from g52_b)) mm_X9_hang (hstk := rfl) (hlen := rfl) (hcat := Nat.le_of_ble_eq_true rfl) (isC := [0, 1, 2, 3, 4, 5]) (isR := []) (wr := []) (hC := rfl) (hR := rfl) (hnC := rfl) (hn := rfl) (hdis := by decide) (hR1 := ⟨Nat.le_of_ble_eq_true rfl, Nat.le_of_ble_eq_true rfl⟩) (hcs := ⟨Nat.le_of_ble_eq_true rfl, Nat.le_of_ble_eq_true rfl⟩) (fun v_ w_ hp_ => ?_)
            obtain ⟨n2_111, fb2_111, xs2_111, rfl, rfl, g111_l, g111_s, g111_o, g111_p, g111_b⟩ := hp_
            replace g111_l : xs2_111.length = n2_111 := g111_l
            replace g111_s : LsA fb2_111 xs2_111 := g111_s
            replace g111_o : xs2_111.Pairwise (· ≤ ·) := g111_o
            replace g111_p : xs2_111.Perm (hg lf lt (m - 1) (tree ||| 2 ^ (m - 1)) (unt g (grp g ((lf (m - 1)).toNat)) (grp g ((lt (m - 1)).toNat)) 6) ++ xs2_52) := g111_p
            replace g111_b : ∀ x_ ∈ xs2_111, x_ < 16384 := g111_b
            show Wx _ _ _ _ _ _ _ _ _ _ _ _ _ _ _ _ 114 [(7, .int (iI ((grp g ((lt (m - 1)).toNat) : Nat) : Int))), (6, .int (iI ((grp g ((lf (m - 1)).toNat) : Nat) : Int))), (5, .int (iI (5 - ((popc tree : Nat) : Int)))), (0, .ref k), (1, .int (iI link)), (2, .int (iI (tree : Int))), (3, .int (iI (g : Int))), (4, .ref h)] [] [(k, ob 8 [.ref lk, .int (iI s0), .ref lk]), (lk, ob 2 [.ref la_, .ref lb_, .int (iI (nl : Int)), .ref lf_, .ref lt_]), (lf_, ia E 14 lf), (lt_, ia E 14 lt), (h, ob 7 [.ref hb, .ref ha, .ref hc, .int (iI (n2_111 : Int)), .int (iI sg)]), (hb, ia E 2002 fb2_111)]
            exact x_vret C hr dX9_hang_114 ⟨n2_111, fb2_111, xs2_111, rfl, rfl, (show xs2_111.length = n2_111 from g111_l), (show LsA fb2_111 xs2_111 from g111_s), (show xs2_111.Pairwise (· ≤ ·) from g111_o), (show xs2_111.Perm (hg lf lt m tree g ++ xs) from two_perm hV2 g52_p g111_p), (show ∀ x_ ∈ xs2_111, x_ < 16384 from g111_b)⟩
        ·
          exact x_vret C hr dX9_hang_43 ⟨n, fb, xs, rfl, rfl, (show xs.length = n from hlen), (show LsA fb xs from hls), (show xs.Pairwise (· ≤ ·) from hso), (show xs.Perm (hg lf lt m tree g ++ xs) from by rw [hg_0 (by omega) (by omega)]; exact List.Perm.refl _), (show ∀ x_ ∈ xs, x_ < 16384 from hbd)⟩
  ·
    refine x_aload (pc' := 15) C 5 dX9_hang_13 rfl rfl ?_
    refine x_iload_n (pc' := 16) C 3 dX9_hang_15 rfl rfl ?_
    refine x_callV (pc' := 19) (As := [.int (iI (tree : Int))]) (rest := []) (q0 := 0) C rfl rfl cv_X9_32_X8 dX9_hang_16 rfl (c_X8_insert l E h hb ha hc n tree sg fb xs (show n < 2002 from by rw [hg_5 (show popc tree = 5 by omega), List.length_singleton] at hcap; omega) (show tree < 1000000 from by omega) (show xs.length = n from hlen) (show LsA fb xs from hls) (show xs.Pairwise (· ≤ ·) from hso) (show ∀ j (h : j < xs.length), xs[j] < 1000000 from get_bd (fun x_ hx_ => Nat.lt_trans (hbd x_ hx_) (by decide)))) mm_X8_insert (hstk := rfl) (hlen := rfl) (hcat := Nat.le_of_ble_eq_true rfl) (isC := [4, 5]) (isR := [0, 1, 2, 3]) (wr := [(k, ob 8 [.ref lk, .int (iI s0), .ref lk]), (lk, ob 2 [.ref la_, .ref lb_, .int (iI (nl : Int)), .ref lf_, .ref lt_]), (lf_, ia E 14 lf), (lt_, ia E 14 lt)]) (hC := rfl) (hR := rfl) (hnC := rfl) (hn := rfl) (hdis := by decide) (hR1 := ⟨Nat.le_of_ble_eq_true rfl, Nat.le_of_ble_eq_true rfl⟩) (hcs := ⟨Nat.le_of_ble_eq_true rfl, Nat.le_of_ble_eq_true rfl⟩) (fun v_ w_ hp_ => ?_)
    obtain ⟨fb2_16, xs2_16, rfl, rfl, g16_l, g16_s, g16_o, g16_p⟩ := hp_
    replace g16_l : xs2_16.length = n + 1 := g16_l
    replace g16_s : LsA fb2_16 xs2_16 := g16_s
    replace g16_o : xs2_16.Pairwise (· ≤ ·) := g16_o
    replace g16_p : xs2_16.Perm (tree :: xs) := g16_p
    show Wx _ _ _ _ _ _ _ _ _ _ _ _ _ _ _ _ 19 [(5, .int (iI (5 - ((popc tree : Nat) : Int)))), (0, .ref k), (1, .int (iI link)), (2, .int (iI (tree : Int))), (3, .int (iI (g : Int))), (4, .ref h)] [] [(k, ob 8 [.ref lk, .int (iI s0), .ref lk]), (lk, ob 2 [.ref la_, .ref lb_, .int (iI (nl : Int)), .ref lf_, .ref lt_]), (lf_, ia E 14 lf), (lt_, ia E 14 lt), (h, ob 7 [.ref hb, .ref ha, .ref hc, .int (iI ((n + 1 : Nat) : Int)), .int (iI sg)]), (hb, ia E 2002 fb2_16)]
    exact x_vret C hr dX9_hang_19 ⟨(n + 1), fb2_16, xs2_16, rfl, rfl, (show xs2_16.length = (n + 1) from g16_l), (show LsA fb2_16 xs2_16 from g16_s), (show xs2_16.Pairwise (· ≤ ·) from g16_o), (show xs2_16.Perm (hg lf lt m tree g ++ xs) from by rw [hg_5 (show popc tree = 5 by omega)]; exact g16_p), (show ∀ x_ ∈ xs2_16, x_ < 16384 from mem_bd (L := [tree]) g16_p (one_bd htr) hbd)⟩

set_option maxHeartbeats 4000000 in
set_option maxRecDepth 100000 in
theorem c_X9_hang_10 (l : Launch) (E : EV) (k : Nat) (lk : Nat) (la_ : Nat) (lb_ : Nat) (lf_ : Nat) (lt_ : Nat) (nl : Nat) (s0 : Int) (lf : Nat → Int) (lt : Nat → Int) (h : Nat) (hb : Nat) (ha : Nat) (hc : Nat) (sg : Int) (fb : Nat → Int) (n : Nat) (m : Nat) (tree : Nat) (g : Nat) (link : Int) (xs : List Nat) (hnl : nl ≤ 14) (hlf : ∀ j_ : Nat, j_ < nl → 0 ≤ lf j_ ∧ lf j_ ≤ 5) (hlt : ∀ j_ : Nat, j_ < nl → 0 ≤ lt j_ ∧ lt j_ ≤ 5) (hcap : (hg lf lt m tree g).length + xs.length ≤ 2002) (hm : (link + 1).toNat = m ∧ -1 ≤ link) (hmL : m ≤ 10 ∧ m ≤ nl) (htr : tree < 16384) (hgg : g < 262144) (hlen : xs.length = n) (hls : LsA fb xs) (hso : xs.Pairwise (· ≤ ·)) (hbd : ∀ x_ ∈ xs, x_ < 16384) : MC l E yX9_hang cX9_hang 8 (none) ({ frames := 11, cells := 0, slots := 0, locals := 292 }) [.ref k, .int (iI link), .int (iI (tree : Int)), .int (iI (g : Int)), .ref h] [(k, ob 8 [.ref lk, .int (iI s0), .ref lk]), (lk, ob 2 [.ref la_, .ref lb_, .int (iI (nl : Int)), .ref lf_, .ref lt_]), (lf_, ia E 14 lf), (lt_, ia E 14 lt), (h, ob 7 [.ref hb, .ref ha, .ref hc, .int (iI (n : Int)), .int (iI sg)]), (hb, ia E 2002 fb)] (fun v_ w_ => ∃ (n2 : Nat) (fb2 : Nat → Int) (xs2 : List Nat), v_ = none ∧ w_ = [(k, ob 8 [.ref lk, .int (iI s0), .ref lk]), (lk, ob 2 [.ref la_, .ref lb_, .int (iI (nl : Int)), .ref lf_, .ref lt_]), (lf_, ia E 14 lf), (lt_, ia E 14 lt), (h, ob 7 [.ref hb, .ref ha, .ref hc, .int (iI (n2 : Int)), .int (iI sg)]), (hb, ia E 2002 fb2)] ∧ (xs2.length = n2) ∧ (LsA fb2 xs2) ∧ (xs2.Pairwise (· ≤ ·)) ∧ (xs2.Perm (hg lf lt m tree g ++ xs)) ∧ (∀ x_ ∈ xs2, x_ < 16384)) := by
  refine MC.of (by decide +kernel) (Nat.le_of_ble_eq_true rfl) ?_
  intro p_ e_ s_ m_ args_ below_ meth_ c_ A_ C hr hnm
  have C : Cx p_ s_ m_ args_ meth_ c_ E A_ 8 cX9_hang RX9 := C
  have hpc := popc_le tree
  show Wx _ _ _ _ _ _ _ _ _ _ _ _ _ _ _ _ 0 [(0, .ref k), (1, .int (iI link)), (2, .int (iI (tree : Int))), (3, .int (iI (g : Int))), (4, .ref h)] [] [(k, ob 8 [.ref lk, .int (iI s0), .ref lk]), (lk, ob 2 [.ref la_, .ref lb_, .int (iI (nl : Int)), .ref lf_, .ref lt_]), (lf_, ia E 14 lf), (lt_, ia E 14 lt), (h, ob 7 [.ref hb, .ref ha, .ref hc, .int (iI (n : Int)), .int (iI sg)]), (hb, ia E 2002 fb)]
  refine x_iconst (pc' := 1) C dX9_hang_0 rfl ?_
  refine x_iload_n (pc' := 2) C 2 dX9_hang_1 rfl rfl ?_
  refine x_callS (pc' := 5) (As := [.int (iI (tree : Int))]) (rest := [.int (iI 5)]) C cs_X9_26 dX9_hang_2 rfl (c_J6_bitCount_0f7a4 l E tree (show tree < 1000000 from by omega)) mm_J6_bitCount_0f7a4 (hstk := rfl) (hlen := rfl) (hcat := Nat.le_of_ble_eq_true rfl) (isC := []) (isR := [0, 1, 2, 3, 4, 5]) (wr := [(k, ob 8 [.ref lk, .int (iI s0), .ref lk]), (lk, ob 2 [.ref la_, .ref lb_, .int (iI (nl : Int)), .ref lf_, .ref lt_]), (lf_, ia E 14 lf), (lt_, ia E 14 lt), (h, ob 7 [.ref hb, .ref ha, .ref hc, .int (iI (n : Int)), .int (iI sg)]), (hb, ia E 2002 fb)]) (hC := rfl) (hR := rfl) (hnC := rfl) (hn := rfl) (hdis := by decide) (hR1 := ⟨Nat.le_of_ble_eq_true rfl, Nat.le_of_ble_eq_true rfl⟩) (hcs := ⟨Nat.le_of_ble_eq_true rfl, Nat.le_of_ble_eq_true rfl⟩) (fun v_ w_ hp_ => ?_)
  obtain ⟨rfl, rfl⟩ := hp_
  show Wx _ _ _ _ _ _ _ _ _ _ _ _ _ _ _ _ 5 [(0, .ref k), (1, .int (iI link)), (2, .int (iI (tree : Int))), (3, .int (iI (g : Int))), (4, .ref h)] [.int (iI ((popc tree : Nat) : Int)), .int (iI 5)] [(k, ob 8 [.ref lk, .int (iI s0), .ref lk]), (lk, ob 2 [.ref la_, .ref lb_, .int (iI (nl : Int)), .ref lf_, .ref lt_]), (lf_, ia E 14 lf), (lt_, ia E 14 lt), (h, ob 7 [.ref hb, .ref ha, .ref hc, .int (iI (n : Int)), .int (iI sg)]), (hb, ia E 2002 fb)]
  refine x_isub (pc' := 6) C dX9_hang_5 rfl ?_
  refine x_istore (pc' := 8) (lv' := [(5, .int (iI (5 - ((popc tree : Nat) : Int)))), (0, .ref k), (1, .int (iI link)), (2, .int (iI (tree : Int))), (3, .int (iI (g : Int))), (4, .ref h)]) C dX9_hang_6 rfl (by decide) rfl ?_
  refine x_iload (pc' := 10) C 0 dX9_hang_8 rfl rfl ?_
  refine x_if_ne (pc' := 13) (tgt := 20) C dX9_hang_10 rfl (by decide) (by omega) (fun c10 => ?_) (fun c10 => ?_)
  ·
    refine x_iload_n (pc' := 21) C 2 dX9_hang_20 rfl rfl ?_
    refine x_if_lt (pc' := 24) (tgt := 43) C dX9_hang_21 rfl (by decide) (by omega) (fun c21 => ?_) (fun c21 => ?_)
    ·
      exact x_vret C hr dX9_hang_43 ⟨n, fb, xs, rfl, rfl, (show xs.length = n from hlen), (show LsA fb xs from hls), (show xs.Pairwise (· ≤ ·) from hso), (show xs.Perm (hg lf lt m tree g ++ xs) from by rw [hg_0 (by omega) (by omega)]; exact List.Perm.refl _), (show ∀ x_ ∈ xs, x_ < 16384 from hbd)⟩
    ·
      refine x_iload_n (pc' := 25) C 2 dX9_hang_24 rfl rfl ?_
      refine x_aload_n (pc' := 26) C 1 dX9_hang_25 rfl rfl ?_
      refine x_get (pc' := 29) C dX9_hang_26 rfl ff_X9_9_8 0 rfl rfl ?_
      refine x_get (pc' := 32) C dX9_hang_29 rfl ff_X9_15_2 1 rfl rfl ?_
      refine x_icmp_ge (pc' := 35) (tgt := 43) C dX9_hang_32 rfl (by decide) (by omega) (by omega) (fun c32 => ?_) (fun c32 => ?_)
      ·
        exact absurd c32 (by omega)
      ·
        refine x_iload_n (pc' := 36) C 2 dX9_hang_35 rfl rfl ?_
        refine x_iconst (pc' := 37) C dX9_hang_36 rfl ?_
        refine x_iadd (pc' := 38) C dX9_hang_37 rfl ?_
        refine x_iload (pc' := 40) C 0 dX9_hang_38 rfl rfl ?_
        refine x_icmp_ge (pc' := 43) (tgt := 44) C dX9_hang_40 rfl (by decide) (by omega) (by omega) (fun c40 => ?_) (fun c40 => ?_)
        ·
          have hV := hg_s (lf := lf) (lt := lt) (m := m) (tree := tree) (g := g) (by omega) (by omega) (by omega)
          have hf1 := hlf (m - 1) (by omega)
          have ht1 := hlt (m - 1) (by omega)
          have hga := grp_le g (lf (m - 1)).toNat
          have hgb := grp_le g (lt (m - 1)).toNat
          refine x_aload_n (pc' := 45) C 1 dX9_hang_44 rfl rfl ?_
          refine x_iload_n (pc' := 46) C 2 dX9_hang_45 rfl rfl ?_
          refine x_iconst (pc' := 47) C dX9_hang_46 rfl ?_
          refine x_isub (pc' := 48) C dX9_hang_47 rfl ?_
          refine x_iload_n (pc' := 49) C 3 dX9_hang_48 rfl rfl ?_
          refine x_iload_n (pc' := 50) C 4 dX9_hang_49 rfl rfl ?_
          refine x_aload (pc' := 52) C 5 dX9_hang_50 rfl rfl ?_
          refine x_callV (pc' := 55) (As := [.int (iI (link - 1)), .int (iI (tree : Int)), .int (iI (g : Int)), .ref h]) (rest := []) (q0 := 0) C rfl rfl cv_X9_22_X9 dX9_hang_52 rfl (c_X9_hang_9 l E k lk la_ lb_ lf_ lt_ nl s0 lf lt h hb ha hc sg fb n (m - 1) tree g (link - 1) xs (show nl ≤ 14 from by omega) (show ∀ j_ : Nat, j_ < nl → 0 ≤ lf j_ ∧ lf j_ ≤ 5 from hlf) (show ∀ j_ : Nat, j_ < nl → 0 ≤ lt j_ ∧ lt j_ ≤ 5 from hlt) (show (hg lf lt (m - 1) tree g).length + xs.length ≤ 2002 from by rw [hV, List.length_append] at hcap; omega) (show ((link - 1) + 1).toNat = (m - 1) ∧ -1 ≤ (link - 1) from by omega) (show (m - 1) ≤ 9 ∧ (m - 1) ≤ nl from by omega) (show tree < 16384 from htr) (show g < 262144 from hgg) (show xs.length = n from hlen) (show LsA fb xs from hls) (show xs.Pairwise (· ≤ ·) from hso) (show ∀ x_ ∈ xs, x_ < 16384 from hbd)) mm_X9_hang (hstk := rfl) (hlen := rfl) (hcat := Nat.le_of_ble_eq_true rfl) (isC := [0, 1, 2, 3, 4, 5]) (isR := []) (wr := []) (hC := rfl) (hR := rfl) (hnC := rfl) (hn := rfl) (hdis := by decide) (hR1 := ⟨Nat.le_of_ble_eq_true rfl, Nat.le_of_ble_eq_true rfl⟩) (hcs := ⟨Nat.le_of_ble_eq_true rfl, Nat.le_of_ble_eq_true rfl⟩) (fun v_ w_ hp_ => ?_)
          obtain ⟨n2_52, fb2_52, xs2_52, rfl, rfl, g52_l, g52_s, g52_o, g52_p, g52_b⟩ := hp_
          replace g52_l : xs2_52.length = n2_52 := g52_l
          replace g52_s : LsA fb2_52 xs2_52 := g52_s
          replace g52_o : xs2_52.Pairwise (· ≤ ·) := g52_o
          replace g52_p : xs2_52.Perm (hg lf lt (m - 1) tree g ++ xs) := g52_p
          replace g52_b : ∀ x_ ∈ xs2_52, x_ < 16384 := g52_b
          show Wx _ _ _ _ _ _ _ _ _ _ _ _ _ _ _ _ 55 [(5, .int (iI (5 - ((popc tree : Nat) : Int)))), (0, .ref k), (1, .int (iI link)), (2, .int (iI (tree : Int))), (3, .int (iI (g : Int))), (4, .ref h)] [] [(k, ob 8 [.ref lk, .int (iI s0), .ref lk]), (lk, ob 2 [.ref la_, .ref lb_, .int (iI (nl : Int)), .ref lf_, .ref lt_]), (lf_, ia E 14 lf), (lt_, ia E 14 lt), (h, ob 7 [.ref hb, .ref ha, .ref hc, .int (iI (n2_52 : Int)), .int (iI sg)]), (hb, ia E 2002 fb2_52)]
          refine x_iload_n (pc' := 56) C 4 dX9_hang_55 rfl rfl ?_
          refine x_aload_n (pc' := 57) C 1 dX9_hang_56 rfl rfl ?_
          refine x_get (pc' := 60) C dX9_hang_57 rfl ff_X9_9_8 0 rfl rfl ?_
          refine x_get (pc' := 63) C dX9_hang_60 rfl ff_X9_38_2 1 rfl rfl ?_
          refine x_iload_n (pc' := 64) C 2 dX9_hang_63 rfl rfl ?_
          refine x_iald (pc' := 65) C (m - 1) dX9_hang_64 rfl 2 rfl (by omega) (by omega) (by omega) ?_
          refine x_top (b := .int (iI (((lf (m - 1)).toNat : Nat) : Int))) (by congr 2; omega) ?_
          refine x_callS (pc' := 68) (As := [.int (iI (g : Int)), .int (iI (((lf (m - 1)).toNat : Nat) : Int))]) (rest := []) C cs_X9_42 dX9_hang_65 rfl (c_X9_groupOf l E g ((lf (m - 1)).toNat) (show g < 1000000 from by omega) (show ((lf (m - 1)).toNat) ≤ 5 from by omega)) mm_X9_groupOf (hstk := rfl) (hlen := rfl) (hcat := Nat.le_of_ble_eq_true rfl) (isC := []) (isR := [0, 1, 2, 3, 4, 5]) (wr := [(k, ob 8 [.ref lk, .int (iI s0), .ref lk]), (lk, ob 2 [.ref la_, .ref lb_, .int (iI (nl : Int)), .ref lf_, .ref lt_]), (lf_, ia E 14 lf), (lt_, ia E 14 lt), (h, ob 7 [.ref hb, .ref ha, .ref hc, .int (iI (n2_52 : Int)), .int (iI sg)]), (hb, ia E 2002 fb2_52)]) (hC := rfl) (hR := rfl) (hnC := rfl) (hn := rfl) (hdis := by decide) (hR1 := ⟨Nat.le_of_ble_eq_true rfl, Nat.le_of_ble_eq_true rfl⟩) (hcs := ⟨Nat.le_of_ble_eq_true rfl, Nat.le_of_ble_eq_true rfl⟩) (fun v_ w_ hp_ => ?_)
          obtain ⟨rfl, rfl⟩ := hp_
          show Wx _ _ _ _ _ _ _ _ _ _ _ _ _ _ _ _ 68 [(5, .int (iI (5 - ((popc tree : Nat) : Int)))), (0, .ref k), (1, .int (iI link)), (2, .int (iI (tree : Int))), (3, .int (iI (g : Int))), (4, .ref h)] [.int (iI ((grp g ((lf (m - 1)).toNat) : Nat) : Int))] [(k, ob 8 [.ref lk, .int (iI s0), .ref lk]), (lk, ob 2 [.ref la_, .ref lb_, .int (iI (nl : Int)), .ref lf_, .ref lt_]), (lf_, ia E 14 lf), (lt_, ia E 14 lt), (h, ob 7 [.ref hb, .ref ha, .ref hc, .int (iI (n2_52 : Int)), .int (iI sg)]), (hb, ia E 2002 fb2_52)]
          refine x_istore (pc' := 70) (lv' := [(6, .int (iI ((grp g ((lf (m - 1)).toNat) : Nat) : Int))), (5, .int (iI (5 - ((popc tree : Nat) : Int)))), (0, .ref k), (1, .int (iI link)), (2, .int (iI (tree : Int))), (3, .int (iI (g : Int))), (4, .ref h)]) C dX9_hang_68 rfl (by decide) rfl ?_
          refine x_iload_n (pc' := 71) C 5 dX9_hang_70 rfl rfl ?_
          refine x_aload_n (pc' := 72) C 2 dX9_hang_71 rfl rfl ?_
          refine x_get (pc' := 75) C dX9_hang_72 rfl ff_X9_9_8 0 rfl rfl ?_
          refine x_get (pc' := 78) C dX9_hang_75 rfl ff_X9_46_2 1 rfl rfl ?_
          refine x_iload_n (pc' := 79) C 3 dX9_hang_78 rfl rfl ?_
          refine x_iald (pc' := 80) C (m - 1) dX9_hang_79 rfl 3 rfl (by omega) (by omega) (by omega) ?_
          refine x_top (b := .int (iI (((lt (m - 1)).toNat : Nat) : Int))) (by congr 2; omega) ?_
          refine x_callS (pc' := 83) (As := [.int (iI (g : Int)), .int (iI (((lt (m - 1)).toNat : Nat) : Int))]) (rest := []) C cs_X9_42 dX9_hang_80 rfl (c_X9_groupOf l E g ((lt (m - 1)).toNat) (show g < 1000000 from by omega) (show ((lt (m - 1)).toNat) ≤ 5 from by omega)) mm_X9_groupOf (hstk := rfl) (hlen := rfl) (hcat := Nat.le_of_ble_eq_true rfl) (isC := []) (isR := [0, 1, 2, 3, 4, 5]) (wr := [(k, ob 8 [.ref lk, .int (iI s0), .ref lk]), (lk, ob 2 [.ref la_, .ref lb_, .int (iI (nl : Int)), .ref lf_, .ref lt_]), (lf_, ia E 14 lf), (lt_, ia E 14 lt), (h, ob 7 [.ref hb, .ref ha, .ref hc, .int (iI (n2_52 : Int)), .int (iI sg)]), (hb, ia E 2002 fb2_52)]) (hC := rfl) (hR := rfl) (hnC := rfl) (hn := rfl) (hdis := by decide) (hR1 := ⟨Nat.le_of_ble_eq_true rfl, Nat.le_of_ble_eq_true rfl⟩) (hcs := ⟨Nat.le_of_ble_eq_true rfl, Nat.le_of_ble_eq_true rfl⟩) (fun v_ w_ hp_ => ?_)
          obtain ⟨rfl, rfl⟩ := hp_
          show Wx _ _ _ _ _ _ _ _ _ _ _ _ _ _ _ _ 83 [(6, .int (iI ((grp g ((lf (m - 1)).toNat) : Nat) : Int))), (5, .int (iI (5 - ((popc tree : Nat) : Int)))), (0, .ref k), (1, .int (iI link)), (2, .int (iI (tree : Int))), (3, .int (iI (g : Int))), (4, .ref h)] [.int (iI ((grp g ((lt (m - 1)).toNat) : Nat) : Int))] [(k, ob 8 [.ref lk, .int (iI s0), .ref lk]), (lk, ob 2 [.ref la_, .ref lb_, .int (iI (nl : Int)), .ref lf_, .ref lt_]), (lf_, ia E 14 lf), (lt_, ia E 14 lt), (h, ob 7 [.ref hb, .ref ha, .ref hc, .int (iI (n2_52 : Int)), .int (iI sg)]), (hb, ia E 2002 fb2_52)]
          refine x_istore (pc' := 85) (lv' := [(7, .int (iI ((grp g ((lt (m - 1)).toNat) : Nat) : Int))), (6, .int (iI ((grp g ((lf (m - 1)).toNat) : Nat) : Int))), (5, .int (iI (5 - ((popc tree : Nat) : Int)))), (0, .ref k), (1, .int (iI link)), (2, .int (iI (tree : Int))), (3, .int (iI (g : Int))), (4, .ref h)]) C dX9_hang_83 rfl (by decide) rfl ?_
          refine x_iload (pc' := 87) C 1 dX9_hang_85 rfl rfl ?_
          refine x_iload (pc' := 89) C 0 dX9_hang_87 rfl rfl ?_
          refine x_icmp_eq (pc' := 92) (tgt := 114) C dX9_hang_89 rfl (by decide) (by omega) (by omega) (fun c89 => ?_) (fun c89 => ?_)
          ·
            exact x_vret C hr dX9_hang_114 ⟨n2_52, fb2_52, xs2_52, rfl, rfl, (show xs2_52.length = n2_52 from g52_l), (show LsA fb2_52 xs2_52 from g52_s), (show xs2_52.Pairwise (· ≤ ·) from g52_o), (show xs2_52.Perm (hg lf lt m tree g ++ xs) from two_perm (W := []) (by rw [hV, if_pos (by omega)]) g52_p (List.Perm.refl _)), (show ∀ x_ ∈ xs2_52, x_ < 16384 from g52_b)⟩
          ·
            have hV2 := hV
            rw [if_neg (by omega)] at hV2
            refine x_aload_n (pc' := 93) C 3 dX9_hang_92 rfl rfl ?_
            refine x_iload_n (pc' := 94) C 4 dX9_hang_93 rfl rfl ?_
            refine x_iconst (pc' := 95) C dX9_hang_94 rfl ?_
            refine x_isub (pc' := 96) C dX9_hang_95 rfl ?_
            refine x_iload_n (pc' := 97) C 5 dX9_hang_96 rfl rfl ?_
            refine x_iconst (pc' := 98) C dX9_hang_97 rfl ?_
            refine x_iload_n (pc' := 99) C 4 dX9_hang_98 rfl rfl ?_
            refine x_ishl (pc' := 100) (z := (iI ((2 ^ (m - 1) : Nat) : Int))) C dX9_hang_99 rfl (by rw [show link = ((m - 1 : Nat) : Int) by omega]; exact bt_shl (by omega)) ?_
            refine x_ior (pc' := 101) (z := (iI ((tree ||| 2 ^ (m - 1) : Nat) : Int))) C dX9_hang_100 rfl (bt_or _ _) ?_
            refine x_iload_n (pc' := 102) C 6 dX9_hang_101 rfl rfl ?_
            refine x_iload (pc' := 104) C 1 dX9_hang_102 rfl rfl ?_
            refine x_iload (pc' := 106) C 0 dX9_hang_104 rfl rfl ?_
            refine x_callS (pc' := 109) (As := [.int (iI (g : Int)), .int (iI ((grp g ((lf (m - 1)).toNat) : Nat) : Int)), .int (iI ((grp g ((lt (m - 1)).toNat) : Nat) : Int))]) (rest := [.int (iI ((tree ||| 2 ^ (m - 1) : Nat) : Int)), .int (iI (link - 1)), .ref k]) C cs_X9_49 dX9_hang_106 rfl (c_X9_unite l E g (grp g ((lf (m - 1)).toNat)) (grp g ((lt (m - 1)).toNat)) (show g < 262144 from by omega) (show (grp g ((lf (m - 1)).toNat)) ≤ 7 from by omega) (show (grp g ((lt (m - 1)).toNat)) ≤ 7 from by omega)) mm_X9_unite (hstk := rfl) (hlen := rfl) (hcat := Nat.le_of_ble_eq_true rfl) (isC := []) (isR := [0, 1, 2, 3, 4, 5]) (wr := [(k, ob 8 [.ref lk, .int (iI s0), .ref lk]), (lk, ob 2 [.ref la_, .ref lb_, .int (iI (nl : Int)), .ref lf_, .ref lt_]), (lf_, ia E 14 lf), (lt_, ia E 14 lt), (h, ob 7 [.ref hb, .ref ha, .ref hc, .int (iI (n2_52 : Int)), .int (iI sg)]), (hb, ia E 2002 fb2_52)]) (hC := rfl) (hR := rfl) (hnC := rfl) (hn := rfl) (hdis := by decide) (hR1 := ⟨Nat.le_of_ble_eq_true rfl, Nat.le_of_ble_eq_true rfl⟩) (hcs := ⟨Nat.le_of_ble_eq_true rfl, Nat.le_of_ble_eq_true rfl⟩) (fun v_ w_ hp_ => ?_)
            obtain ⟨rfl, rfl⟩ := hp_
            show Wx _ _ _ _ _ _ _ _ _ _ _ _ _ _ _ _ 109 [(7, .int (iI ((grp g ((lt (m - 1)).toNat) : Nat) : Int))), (6, .int (iI ((grp g ((lf (m - 1)).toNat) : Nat) : Int))), (5, .int (iI (5 - ((popc tree : Nat) : Int)))), (0, .ref k), (1, .int (iI link)), (2, .int (iI (tree : Int))), (3, .int (iI (g : Int))), (4, .ref h)] [.int (iI ((unt g (grp g ((lf (m - 1)).toNat)) (grp g ((lt (m - 1)).toNat)) 6 : Nat) : Int)), .int (iI ((tree ||| 2 ^ (m - 1) : Nat) : Int)), .int (iI (link - 1)), .ref k] [(k, ob 8 [.ref lk, .int (iI s0), .ref lk]), (lk, ob 2 [.ref la_, .ref lb_, .int (iI (nl : Int)), .ref lf_, .ref lt_]), (lf_, ia E 14 lf), (lt_, ia E 14 lt), (h, ob 7 [.ref hb, .ref ha, .ref hc, .int (iI (n2_52 : Int)), .int (iI sg)]), (hb, ia E 2002 fb2_52)]
            refine x_aload (pc' := 111) C 7 dX9_hang_109 rfl rfl ?_
            refine x_callV (pc' := 114) (As := [.int (iI (link - 1)), .int (iI ((tree ||| 2 ^ (m - 1) : Nat) : Int)), .int (iI ((unt g (grp g ((lf (m - 1)).toNat)) (grp g ((lt (m - 1)).toNat)) 6 : Nat) : Int)), .ref h]) (rest := []) (q0 := 0) C rfl rfl cv_X9_22_X9 dX9_hang_111 rfl (c_X9_hang_9 l E k lk la_ lb_ lf_ lt_ nl s0 lf lt h hb ha hc sg fb2_52 n2_52 (m - 1) (tree ||| 2 ^ (m - 1)) (unt g (grp g ((lf (m - 1)).toNat)) (grp g ((lt (m - 1)).toNat)) 6) (link - 1) xs2_52 (show nl ≤ 14 from by omega) (show ∀ j_ : Nat, j_ < nl → 0 ≤ lf j_ ∧ lf j_ ≤ 5 from hlf) (show ∀ j_ : Nat, j_ < nl → 0 ≤ lt j_ ∧ lt j_ ≤ 5 from hlt) (show (hg lf lt (m - 1) (tree ||| 2 ^ (m - 1)) (unt g (grp g ((lf (m - 1)).toNat)) (grp g ((lt (m - 1)).toNat)) 6)).length + xs2_52.length ≤ 2002 from by have hq_ := g52_p.length_eq; rw [List.length_append] at hq_; rw [hV2, List.length_append] at hcap; omega) (show ((link - 1) + 1).toNat = (m - 1) ∧ -1 ≤ (link - 1) from by omega) (show (m - 1) ≤ 9 ∧ (m - 1) ≤ nl from by omega) (show (tree ||| 2 ^ (m - 1)) < 16384 from or_bd (N := 14) htr (by omega)) (show (unt g (grp g ((lf (m - 1)).toNat)) (grp g ((lt (m - 1)).toNat)) 6) < 262144 from unt_bd (g := g) hgg (grp_le _ _) (grp_le _ _) 6 (by decide)) (show xs2_52.length = n2_52 from g52_l) (show LsA fb2_52 xs2_52 from g52_s) (show xs2_52.Pairwise (· ≤ ·) from g52_o) (show ∀ x_ ∈ xs2_52, x_ < 16384 from g52_b)) mm_X9_hang (hstk := rfl) (hlen := rfl) (hcat := Nat.le_of_ble_eq_true rfl) (isC := [0, 1, 2, 3, 4, 5]) (isR := []) (wr := []) (hC := rfl) (hR := rfl) (hnC := rfl) (hn := rfl) (hdis := by decide) (hR1 := ⟨Nat.le_of_ble_eq_true rfl, Nat.le_of_ble_eq_true rfl⟩) (hcs := ⟨Nat.le_of_ble_eq_true rfl, Nat.le_of_ble_eq_true rfl⟩) (fun v_ w_ hp_ => ?_)
            obtain ⟨n2_111, fb2_111, xs2_111, rfl, rfl, g111_l, g111_s, g111_o, g111_p, g111_b⟩ := hp_
            replace g111_l : xs2_111.length = n2_111 := g111_l
            replace g111_s : LsA fb2_111 xs2_111 := g111_s
            replace g111_o : xs2_111.Pairwise (· ≤ ·) := g111_o
            replace g111_p : xs2_111.Perm (hg lf lt (m - 1) (tree ||| 2 ^ (m - 1)) (unt g (grp g ((lf (m - 1)).toNat)) (grp g ((lt (m - 1)).toNat)) 6) ++ xs2_52) := g111_p
            replace g111_b : ∀ x_ ∈ xs2_111, x_ < 16384 := g111_b
            show Wx _ _ _ _ _ _ _ _ _ _ _ _ _ _ _ _ 114 [(7, .int (iI ((grp g ((lt (m - 1)).toNat) : Nat) : Int))), (6, .int (iI ((grp g ((lf (m - 1)).toNat) : Nat) : Int))), (5, .int (iI (5 - ((popc tree : Nat) : Int)))), (0, .ref k), (1, .int (iI link)), (2, .int (iI (tree : Int))), (3, .int (iI (g : Int))), (4, .ref h)] [] [(k, ob 8 [.ref lk, .int (iI s0), .ref lk]), (lk, ob 2 [.ref la_, .ref lb_, .int (iI (nl : Int)), .ref lf_, .ref lt_]), (lf_, ia E 14 lf), (lt_, ia E 14 lt), (h, ob 7 [.ref hb, .ref ha, .ref hc, .int (iI (n2_111 : Int)), .int (iI sg)]), (hb, ia E 2002 fb2_111)]
            exact x_vret C hr dX9_hang_114 ⟨n2_111, fb2_111, xs2_111, rfl, rfl, (show xs2_111.length = n2_111 from g111_l), (show LsA fb2_111 xs2_111 from g111_s), (show xs2_111.Pairwise (· ≤ ·) from g111_o), (show xs2_111.Perm (hg lf lt m tree g ++ xs) from two_perm hV2 g52_p g111_p), (show ∀ x_ ∈ xs2_111, x_ < 16384 from g111_b)⟩
        ·
          exact x_vret C hr dX9_hang_43 ⟨n, fb, xs, rfl, rfl, (show xs.length = n from hlen), (show LsA fb xs from hls), (show xs.Pairwise (· ≤ ·) from hso), (show xs.Perm (hg lf lt m tree g ++ xs) from by rw [hg_0 (by omega) (by omega)]; exact List.Perm.refl _), (show ∀ x_ ∈ xs, x_ < 16384 from hbd)⟩
  ·
    refine x_aload (pc' := 15) C 5 dX9_hang_13 rfl rfl ?_
    refine x_iload_n (pc' := 16) C 3 dX9_hang_15 rfl rfl ?_
    refine x_callV (pc' := 19) (As := [.int (iI (tree : Int))]) (rest := []) (q0 := 0) C rfl rfl cv_X9_32_X8 dX9_hang_16 rfl (c_X8_insert l E h hb ha hc n tree sg fb xs (show n < 2002 from by rw [hg_5 (show popc tree = 5 by omega), List.length_singleton] at hcap; omega) (show tree < 1000000 from by omega) (show xs.length = n from hlen) (show LsA fb xs from hls) (show xs.Pairwise (· ≤ ·) from hso) (show ∀ j (h : j < xs.length), xs[j] < 1000000 from get_bd (fun x_ hx_ => Nat.lt_trans (hbd x_ hx_) (by decide)))) mm_X8_insert (hstk := rfl) (hlen := rfl) (hcat := Nat.le_of_ble_eq_true rfl) (isC := [4, 5]) (isR := [0, 1, 2, 3]) (wr := [(k, ob 8 [.ref lk, .int (iI s0), .ref lk]), (lk, ob 2 [.ref la_, .ref lb_, .int (iI (nl : Int)), .ref lf_, .ref lt_]), (lf_, ia E 14 lf), (lt_, ia E 14 lt)]) (hC := rfl) (hR := rfl) (hnC := rfl) (hn := rfl) (hdis := by decide) (hR1 := ⟨Nat.le_of_ble_eq_true rfl, Nat.le_of_ble_eq_true rfl⟩) (hcs := ⟨Nat.le_of_ble_eq_true rfl, Nat.le_of_ble_eq_true rfl⟩) (fun v_ w_ hp_ => ?_)
    obtain ⟨fb2_16, xs2_16, rfl, rfl, g16_l, g16_s, g16_o, g16_p⟩ := hp_
    replace g16_l : xs2_16.length = n + 1 := g16_l
    replace g16_s : LsA fb2_16 xs2_16 := g16_s
    replace g16_o : xs2_16.Pairwise (· ≤ ·) := g16_o
    replace g16_p : xs2_16.Perm (tree :: xs) := g16_p
    show Wx _ _ _ _ _ _ _ _ _ _ _ _ _ _ _ _ 19 [(5, .int (iI (5 - ((popc tree : Nat) : Int)))), (0, .ref k), (1, .int (iI link)), (2, .int (iI (tree : Int))), (3, .int (iI (g : Int))), (4, .ref h)] [] [(k, ob 8 [.ref lk, .int (iI s0), .ref lk]), (lk, ob 2 [.ref la_, .ref lb_, .int (iI (nl : Int)), .ref lf_, .ref lt_]), (lf_, ia E 14 lf), (lt_, ia E 14 lt), (h, ob 7 [.ref hb, .ref ha, .ref hc, .int (iI ((n + 1 : Nat) : Int)), .int (iI sg)]), (hb, ia E 2002 fb2_16)]
    exact x_vret C hr dX9_hang_19 ⟨(n + 1), fb2_16, xs2_16, rfl, rfl, (show xs2_16.length = (n + 1) from g16_l), (show LsA fb2_16 xs2_16 from g16_s), (show xs2_16.Pairwise (· ≤ ·) from g16_o), (show xs2_16.Perm (hg lf lt m tree g ++ xs) from by rw [hg_5 (show popc tree = 5 by omega)]; exact g16_p), (show ∀ x_ ∈ xs2_16, x_ < 16384 from mem_bd (L := [tree]) g16_p (one_bd htr) hbd)⟩

set_option maxHeartbeats 4000000 in
set_option maxRecDepth 100000 in
theorem c_X9_hang_11 (l : Launch) (E : EV) (k : Nat) (lk : Nat) (la_ : Nat) (lb_ : Nat) (lf_ : Nat) (lt_ : Nat) (nl : Nat) (s0 : Int) (lf : Nat → Int) (lt : Nat → Int) (h : Nat) (hb : Nat) (ha : Nat) (hc : Nat) (sg : Int) (fb : Nat → Int) (n : Nat) (m : Nat) (tree : Nat) (g : Nat) (link : Int) (xs : List Nat) (hnl : nl ≤ 14) (hlf : ∀ j_ : Nat, j_ < nl → 0 ≤ lf j_ ∧ lf j_ ≤ 5) (hlt : ∀ j_ : Nat, j_ < nl → 0 ≤ lt j_ ∧ lt j_ ≤ 5) (hcap : (hg lf lt m tree g).length + xs.length ≤ 2002) (hm : (link + 1).toNat = m ∧ -1 ≤ link) (hmL : m ≤ 11 ∧ m ≤ nl) (htr : tree < 16384) (hgg : g < 262144) (hlen : xs.length = n) (hls : LsA fb xs) (hso : xs.Pairwise (· ≤ ·)) (hbd : ∀ x_ ∈ xs, x_ < 16384) : MC l E yX9_hang cX9_hang 8 (none) ({ frames := 12, cells := 0, slots := 0, locals := 319 }) [.ref k, .int (iI link), .int (iI (tree : Int)), .int (iI (g : Int)), .ref h] [(k, ob 8 [.ref lk, .int (iI s0), .ref lk]), (lk, ob 2 [.ref la_, .ref lb_, .int (iI (nl : Int)), .ref lf_, .ref lt_]), (lf_, ia E 14 lf), (lt_, ia E 14 lt), (h, ob 7 [.ref hb, .ref ha, .ref hc, .int (iI (n : Int)), .int (iI sg)]), (hb, ia E 2002 fb)] (fun v_ w_ => ∃ (n2 : Nat) (fb2 : Nat → Int) (xs2 : List Nat), v_ = none ∧ w_ = [(k, ob 8 [.ref lk, .int (iI s0), .ref lk]), (lk, ob 2 [.ref la_, .ref lb_, .int (iI (nl : Int)), .ref lf_, .ref lt_]), (lf_, ia E 14 lf), (lt_, ia E 14 lt), (h, ob 7 [.ref hb, .ref ha, .ref hc, .int (iI (n2 : Int)), .int (iI sg)]), (hb, ia E 2002 fb2)] ∧ (xs2.length = n2) ∧ (LsA fb2 xs2) ∧ (xs2.Pairwise (· ≤ ·)) ∧ (xs2.Perm (hg lf lt m tree g ++ xs)) ∧ (∀ x_ ∈ xs2, x_ < 16384)) := by
  refine MC.of (by decide +kernel) (Nat.le_of_ble_eq_true rfl) ?_
  intro p_ e_ s_ m_ args_ below_ meth_ c_ A_ C hr hnm
  have C : Cx p_ s_ m_ args_ meth_ c_ E A_ 8 cX9_hang RX9 := C
  have hpc := popc_le tree
  show Wx _ _ _ _ _ _ _ _ _ _ _ _ _ _ _ _ 0 [(0, .ref k), (1, .int (iI link)), (2, .int (iI (tree : Int))), (3, .int (iI (g : Int))), (4, .ref h)] [] [(k, ob 8 [.ref lk, .int (iI s0), .ref lk]), (lk, ob 2 [.ref la_, .ref lb_, .int (iI (nl : Int)), .ref lf_, .ref lt_]), (lf_, ia E 14 lf), (lt_, ia E 14 lt), (h, ob 7 [.ref hb, .ref ha, .ref hc, .int (iI (n : Int)), .int (iI sg)]), (hb, ia E 2002 fb)]
  refine x_iconst (pc' := 1) C dX9_hang_0 rfl ?_
  refine x_iload_n (pc' := 2) C 2 dX9_hang_1 rfl rfl ?_
  refine x_callS (pc' := 5) (As := [.int (iI (tree : Int))]) (rest := [.int (iI 5)]) C cs_X9_26 dX9_hang_2 rfl (c_J6_bitCount_0f7a4 l E tree (show tree < 1000000 from by omega)) mm_J6_bitCount_0f7a4 (hstk := rfl) (hlen := rfl) (hcat := Nat.le_of_ble_eq_true rfl) (isC := []) (isR := [0, 1, 2, 3, 4, 5]) (wr := [(k, ob 8 [.ref lk, .int (iI s0), .ref lk]), (lk, ob 2 [.ref la_, .ref lb_, .int (iI (nl : Int)), .ref lf_, .ref lt_]), (lf_, ia E 14 lf), (lt_, ia E 14 lt), (h, ob 7 [.ref hb, .ref ha, .ref hc, .int (iI (n : Int)), .int (iI sg)]), (hb, ia E 2002 fb)]) (hC := rfl) (hR := rfl) (hnC := rfl) (hn := rfl) (hdis := by decide) (hR1 := ⟨Nat.le_of_ble_eq_true rfl, Nat.le_of_ble_eq_true rfl⟩) (hcs := ⟨Nat.le_of_ble_eq_true rfl, Nat.le_of_ble_eq_true rfl⟩) (fun v_ w_ hp_ => ?_)
  obtain ⟨rfl, rfl⟩ := hp_
  show Wx _ _ _ _ _ _ _ _ _ _ _ _ _ _ _ _ 5 [(0, .ref k), (1, .int (iI link)), (2, .int (iI (tree : Int))), (3, .int (iI (g : Int))), (4, .ref h)] [.int (iI ((popc tree : Nat) : Int)), .int (iI 5)] [(k, ob 8 [.ref lk, .int (iI s0), .ref lk]), (lk, ob 2 [.ref la_, .ref lb_, .int (iI (nl : Int)), .ref lf_, .ref lt_]), (lf_, ia E 14 lf), (lt_, ia E 14 lt), (h, ob 7 [.ref hb, .ref ha, .ref hc, .int (iI (n : Int)), .int (iI sg)]), (hb, ia E 2002 fb)]
  refine x_isub (pc' := 6) C dX9_hang_5 rfl ?_
  refine x_istore (pc' := 8) (lv' := [(5, .int (iI (5 - ((popc tree : Nat) : Int)))), (0, .ref k), (1, .int (iI link)), (2, .int (iI (tree : Int))), (3, .int (iI (g : Int))), (4, .ref h)]) C dX9_hang_6 rfl (by decide) rfl ?_
  refine x_iload (pc' := 10) C 0 dX9_hang_8 rfl rfl ?_
  refine x_if_ne (pc' := 13) (tgt := 20) C dX9_hang_10 rfl (by decide) (by omega) (fun c10 => ?_) (fun c10 => ?_)
  ·
    refine x_iload_n (pc' := 21) C 2 dX9_hang_20 rfl rfl ?_
    refine x_if_lt (pc' := 24) (tgt := 43) C dX9_hang_21 rfl (by decide) (by omega) (fun c21 => ?_) (fun c21 => ?_)
    ·
      exact x_vret C hr dX9_hang_43 ⟨n, fb, xs, rfl, rfl, (show xs.length = n from hlen), (show LsA fb xs from hls), (show xs.Pairwise (· ≤ ·) from hso), (show xs.Perm (hg lf lt m tree g ++ xs) from by rw [hg_0 (by omega) (by omega)]; exact List.Perm.refl _), (show ∀ x_ ∈ xs, x_ < 16384 from hbd)⟩
    ·
      refine x_iload_n (pc' := 25) C 2 dX9_hang_24 rfl rfl ?_
      refine x_aload_n (pc' := 26) C 1 dX9_hang_25 rfl rfl ?_
      refine x_get (pc' := 29) C dX9_hang_26 rfl ff_X9_9_8 0 rfl rfl ?_
      refine x_get (pc' := 32) C dX9_hang_29 rfl ff_X9_15_2 1 rfl rfl ?_
      refine x_icmp_ge (pc' := 35) (tgt := 43) C dX9_hang_32 rfl (by decide) (by omega) (by omega) (fun c32 => ?_) (fun c32 => ?_)
      ·
        exact absurd c32 (by omega)
      ·
        refine x_iload_n (pc' := 36) C 2 dX9_hang_35 rfl rfl ?_
        refine x_iconst (pc' := 37) C dX9_hang_36 rfl ?_
        refine x_iadd (pc' := 38) C dX9_hang_37 rfl ?_
        refine x_iload (pc' := 40) C 0 dX9_hang_38 rfl rfl ?_
        refine x_icmp_ge (pc' := 43) (tgt := 44) C dX9_hang_40 rfl (by decide) (by omega) (by omega) (fun c40 => ?_) (fun c40 => ?_)
        ·
          have hV := hg_s (lf := lf) (lt := lt) (m := m) (tree := tree) (g := g) (by omega) (by omega) (by omega)
          have hf1 := hlf (m - 1) (by omega)
          have ht1 := hlt (m - 1) (by omega)
          have hga := grp_le g (lf (m - 1)).toNat
          have hgb := grp_le g (lt (m - 1)).toNat
          refine x_aload_n (pc' := 45) C 1 dX9_hang_44 rfl rfl ?_
          refine x_iload_n (pc' := 46) C 2 dX9_hang_45 rfl rfl ?_
          refine x_iconst (pc' := 47) C dX9_hang_46 rfl ?_
          refine x_isub (pc' := 48) C dX9_hang_47 rfl ?_
          refine x_iload_n (pc' := 49) C 3 dX9_hang_48 rfl rfl ?_
          refine x_iload_n (pc' := 50) C 4 dX9_hang_49 rfl rfl ?_
          refine x_aload (pc' := 52) C 5 dX9_hang_50 rfl rfl ?_
          refine x_callV (pc' := 55) (As := [.int (iI (link - 1)), .int (iI (tree : Int)), .int (iI (g : Int)), .ref h]) (rest := []) (q0 := 0) C rfl rfl cv_X9_22_X9 dX9_hang_52 rfl (c_X9_hang_10 l E k lk la_ lb_ lf_ lt_ nl s0 lf lt h hb ha hc sg fb n (m - 1) tree g (link - 1) xs (show nl ≤ 14 from by omega) (show ∀ j_ : Nat, j_ < nl → 0 ≤ lf j_ ∧ lf j_ ≤ 5 from hlf) (show ∀ j_ : Nat, j_ < nl → 0 ≤ lt j_ ∧ lt j_ ≤ 5 from hlt) (show (hg lf lt (m - 1) tree g).length + xs.length ≤ 2002 from by rw [hV, List.length_append] at hcap; omega) (show ((link - 1) + 1).toNat = (m - 1) ∧ -1 ≤ (link - 1) from by omega) (show (m - 1) ≤ 10 ∧ (m - 1) ≤ nl from by omega) (show tree < 16384 from htr) (show g < 262144 from hgg) (show xs.length = n from hlen) (show LsA fb xs from hls) (show xs.Pairwise (· ≤ ·) from hso) (show ∀ x_ ∈ xs, x_ < 16384 from hbd)) mm_X9_hang (hstk := rfl) (hlen := rfl) (hcat := Nat.le_of_ble_eq_true rfl) (isC := [0, 1, 2, 3, 4, 5]) (isR := []) (wr := []) (hC := rfl) (hR := rfl) (hnC := rfl) (hn := rfl) (hdis := by decide) (hR1 := ⟨Nat.le_of_ble_eq_true rfl, Nat.le_of_ble_eq_true rfl⟩) (hcs := ⟨Nat.le_of_ble_eq_true rfl, Nat.le_of_ble_eq_true rfl⟩) (fun v_ w_ hp_ => ?_)
          obtain ⟨n2_52, fb2_52, xs2_52, rfl, rfl, g52_l, g52_s, g52_o, g52_p, g52_b⟩ := hp_
          replace g52_l : xs2_52.length = n2_52 := g52_l
          replace g52_s : LsA fb2_52 xs2_52 := g52_s
          replace g52_o : xs2_52.Pairwise (· ≤ ·) := g52_o
          replace g52_p : xs2_52.Perm (hg lf lt (m - 1) tree g ++ xs) := g52_p
          replace g52_b : ∀ x_ ∈ xs2_52, x_ < 16384 := g52_b
          show Wx _ _ _ _ _ _ _ _ _ _ _ _ _ _ _ _ 55 [(5, .int (iI (5 - ((popc tree : Nat) : Int)))), (0, .ref k), (1, .int (iI link)), (2, .int (iI (tree : Int))), (3, .int (iI (g : Int))), (4, .ref h)] [] [(k, ob 8 [.ref lk, .int (iI s0), .ref lk]), (lk, ob 2 [.ref la_, .ref lb_, .int (iI (nl : Int)), .ref lf_, .ref lt_]), (lf_, ia E 14 lf), (lt_, ia E 14 lt), (h, ob 7 [.ref hb, .ref ha, .ref hc, .int (iI (n2_52 : Int)), .int (iI sg)]), (hb, ia E 2002 fb2_52)]
          refine x_iload_n (pc' := 56) C 4 dX9_hang_55 rfl rfl ?_
          refine x_aload_n (pc' := 57) C 1 dX9_hang_56 rfl rfl ?_
          refine x_get (pc' := 60) C dX9_hang_57 rfl ff_X9_9_8 0 rfl rfl ?_
          refine x_get (pc' := 63) C dX9_hang_60 rfl ff_X9_38_2 1 rfl rfl ?_
          refine x_iload_n (pc' := 64) C 2 dX9_hang_63 rfl rfl ?_
          refine x_iald (pc' := 65) C (m - 1) dX9_hang_64 rfl 2 rfl (by omega) (by omega) (by omega) ?_
          refine x_top (b := .int (iI (((lf (m - 1)).toNat : Nat) : Int))) (by congr 2; omega) ?_
          refine x_callS (pc' := 68) (As := [.int (iI (g : Int)), .int (iI (((lf (m - 1)).toNat : Nat) : Int))]) (rest := []) C cs_X9_42 dX9_hang_65 rfl (c_X9_groupOf l E g ((lf (m - 1)).toNat) (show g < 1000000 from by omega) (show ((lf (m - 1)).toNat) ≤ 5 from by omega)) mm_X9_groupOf (hstk := rfl) (hlen := rfl) (hcat := Nat.le_of_ble_eq_true rfl) (isC := []) (isR := [0, 1, 2, 3, 4, 5]) (wr := [(k, ob 8 [.ref lk, .int (iI s0), .ref lk]), (lk, ob 2 [.ref la_, .ref lb_, .int (iI (nl : Int)), .ref lf_, .ref lt_]), (lf_, ia E 14 lf), (lt_, ia E 14 lt), (h, ob 7 [.ref hb, .ref ha, .ref hc, .int (iI (n2_52 : Int)), .int (iI sg)]), (hb, ia E 2002 fb2_52)]) (hC := rfl) (hR := rfl) (hnC := rfl) (hn := rfl) (hdis := by decide) (hR1 := ⟨Nat.le_of_ble_eq_true rfl, Nat.le_of_ble_eq_true rfl⟩) (hcs := ⟨Nat.le_of_ble_eq_true rfl, Nat.le_of_ble_eq_true rfl⟩) (fun v_ w_ hp_ => ?_)
          obtain ⟨rfl, rfl⟩ := hp_
          show Wx _ _ _ _ _ _ _ _ _ _ _ _ _ _ _ _ 68 [(5, .int (iI (5 - ((popc tree : Nat) : Int)))), (0, .ref k), (1, .int (iI link)), (2, .int (iI (tree : Int))), (3, .int (iI (g : Int))), (4, .ref h)] [.int (iI ((grp g ((lf (m - 1)).toNat) : Nat) : Int))] [(k, ob 8 [.ref lk, .int (iI s0), .ref lk]), (lk, ob 2 [.ref la_, .ref lb_, .int (iI (nl : Int)), .ref lf_, .ref lt_]), (lf_, ia E 14 lf), (lt_, ia E 14 lt), (h, ob 7 [.ref hb, .ref ha, .ref hc, .int (iI (n2_52 : Int)), .int (iI sg)]), (hb, ia E 2002 fb2_52)]
          refine x_istore (pc' := 70) (lv' := [(6, .int (iI ((grp g ((lf (m - 1)).toNat) : Nat) : Int))), (5, .int (iI (5 - ((popc tree : Nat) : Int)))), (0, .ref k), (1, .int (iI link)), (2, .int (iI (tree : Int))), (3, .int (iI (g : Int))), (4, .ref h)]) C dX9_hang_68 rfl (by decide) rfl ?_
          refine x_iload_n (pc' := 71) C 5 dX9_hang_70 rfl rfl ?_
          refine x_aload_n (pc' := 72) C 2 dX9_hang_71 rfl rfl ?_
          refine x_get (pc' := 75) C dX9_hang_72 rfl ff_X9_9_8 0 rfl rfl ?_
          refine x_get (pc' := 78) C dX9_hang_75 rfl ff_X9_46_2 1 rfl rfl ?_
          refine x_iload_n (pc' := 79) C 3 dX9_hang_78 rfl rfl ?_
          refine x_iald (pc' := 80) C (m - 1) dX9_hang_79 rfl 3 rfl (by omega) (by omega) (by omega) ?_
          refine x_top (b := .int (iI (((lt (m - 1)).toNat : Nat) : Int))) (by congr 2; omega) ?_
          refine x_callS (pc' := 83) (As := [.int (iI (g : Int)), .int (iI (((lt (m - 1)).toNat : Nat) : Int))]) (rest := []) C cs_X9_42 dX9_hang_80 rfl (c_X9_groupOf l E g ((lt (m - 1)).toNat) (show g < 1000000 from by omega) (show ((lt (m - 1)).toNat) ≤ 5 from by omega)) mm_X9_groupOf (hstk := rfl) (hlen := rfl) (hcat := Nat.le_of_ble_eq_true rfl) (isC := []) (isR := [0, 1, 2, 3, 4, 5]) (wr := [(k, ob 8 [.ref lk, .int (iI s0), .ref lk]), (lk, ob 2 [.ref la_, .ref lb_, .int (iI (nl : Int)), .ref lf_, .ref lt_]), (lf_, ia E 14 lf), (lt_, ia E 14 lt), (h, ob 7 [.ref hb, .ref ha, .ref hc, .int (iI (n2_52 : Int)), .int (iI sg)]), (hb, ia E 2002 fb2_52)]) (hC := rfl) (hR := rfl) (hnC := rfl) (hn := rfl) (hdis := by decide) (hR1 := ⟨Nat.le_of_ble_eq_true rfl, Nat.le_of_ble_eq_true rfl⟩) (hcs := ⟨Nat.le_of_ble_eq_true rfl, Nat.le_of_ble_eq_true rfl⟩) (fun v_ w_ hp_ => ?_)
          obtain ⟨rfl, rfl⟩ := hp_
          show Wx _ _ _ _ _ _ _ _ _ _ _ _ _ _ _ _ 83 [(6, .int (iI ((grp g ((lf (m - 1)).toNat) : Nat) : Int))), (5, .int (iI (5 - ((popc tree : Nat) : Int)))), (0, .ref k), (1, .int (iI link)), (2, .int (iI (tree : Int))), (3, .int (iI (g : Int))), (4, .ref h)] [.int (iI ((grp g ((lt (m - 1)).toNat) : Nat) : Int))] [(k, ob 8 [.ref lk, .int (iI s0), .ref lk]), (lk, ob 2 [.ref la_, .ref lb_, .int (iI (nl : Int)), .ref lf_, .ref lt_]), (lf_, ia E 14 lf), (lt_, ia E 14 lt), (h, ob 7 [.ref hb, .ref ha, .ref hc, .int (iI (n2_52 : Int)), .int (iI sg)]), (hb, ia E 2002 fb2_52)]
          refine x_istore (pc' := 85) (lv' := [(7, .int (iI ((grp g ((lt (m - 1)).toNat) : Nat) : Int))), (6, .int (iI ((grp g ((lf (m - 1)).toNat) : Nat) : Int))), (5, .int (iI (5 - ((popc tree : Nat) : Int)))), (0, .ref k), (1, .int (iI link)), (2, .int (iI (tree : Int))), (3, .int (iI (g : Int))), (4, .ref h)]) C dX9_hang_83 rfl (by decide) rfl ?_
          refine x_iload (pc' := 87) C 1 dX9_hang_85 rfl rfl ?_
          refine x_iload (pc' := 89) C 0 dX9_hang_87 rfl rfl ?_
          refine x_icmp_eq (pc' := 92) (tgt := 114) C dX9_hang_89 rfl (by decide) (by omega) (by omega) (fun c89 => ?_) (fun c89 => ?_)
          ·
            exact x_vret C hr dX9_hang_114 ⟨n2_52, fb2_52, xs2_52, rfl, rfl, (show xs2_52.length = n2_52 from g52_l), (show LsA fb2_52 xs2_52 from g52_s), (show xs2_52.Pairwise (· ≤ ·) from g52_o), (show xs2_52.Perm (hg lf lt m tree g ++ xs) from two_perm (W := []) (by rw [hV, if_pos (by omega)]) g52_p (List.Perm.refl _)), (show ∀ x_ ∈ xs2_52, x_ < 16384 from g52_b)⟩
          ·
            have hV2 := hV
            rw [if_neg (by omega)] at hV2
            refine x_aload_n (pc' := 93) C 3 dX9_hang_92 rfl rfl ?_
            refine x_iload_n (pc' := 94) C 4 dX9_hang_93 rfl rfl ?_
            refine x_iconst (pc' := 95) C dX9_hang_94 rfl ?_
            refine x_isub (pc' := 96) C dX9_hang_95 rfl ?_
            refine x_iload_n (pc' := 97) C 5 dX9_hang_96 rfl rfl ?_
            refine x_iconst (pc' := 98) C dX9_hang_97 rfl ?_
            refine x_iload_n (pc' := 99) C 4 dX9_hang_98 rfl rfl ?_
            refine x_ishl (pc' := 100) (z := (iI ((2 ^ (m - 1) : Nat) : Int))) C dX9_hang_99 rfl (by rw [show link = ((m - 1 : Nat) : Int) by omega]; exact bt_shl (by omega)) ?_
            refine x_ior (pc' := 101) (z := (iI ((tree ||| 2 ^ (m - 1) : Nat) : Int))) C dX9_hang_100 rfl (bt_or _ _) ?_
            refine x_iload_n (pc' := 102) C 6 dX9_hang_101 rfl rfl ?_
            refine x_iload (pc' := 104) C 1 dX9_hang_102 rfl rfl ?_
            refine x_iload (pc' := 106) C 0 dX9_hang_104 rfl rfl ?_
            refine x_callS (pc' := 109) (As := [.int (iI (g : Int)), .int (iI ((grp g ((lf (m - 1)).toNat) : Nat) : Int)), .int (iI ((grp g ((lt (m - 1)).toNat) : Nat) : Int))]) (rest := [.int (iI ((tree ||| 2 ^ (m - 1) : Nat) : Int)), .int (iI (link - 1)), .ref k]) C cs_X9_49 dX9_hang_106 rfl (c_X9_unite l E g (grp g ((lf (m - 1)).toNat)) (grp g ((lt (m - 1)).toNat)) (show g < 262144 from by omega) (show (grp g ((lf (m - 1)).toNat)) ≤ 7 from by omega) (show (grp g ((lt (m - 1)).toNat)) ≤ 7 from by omega)) mm_X9_unite (hstk := rfl) (hlen := rfl) (hcat := Nat.le_of_ble_eq_true rfl) (isC := []) (isR := [0, 1, 2, 3, 4, 5]) (wr := [(k, ob 8 [.ref lk, .int (iI s0), .ref lk]), (lk, ob 2 [.ref la_, .ref lb_, .int (iI (nl : Int)), .ref lf_, .ref lt_]), (lf_, ia E 14 lf), (lt_, ia E 14 lt), (h, ob 7 [.ref hb, .ref ha, .ref hc, .int (iI (n2_52 : Int)), .int (iI sg)]), (hb, ia E 2002 fb2_52)]) (hC := rfl) (hR := rfl) (hnC := rfl) (hn := rfl) (hdis := by decide) (hR1 := ⟨Nat.le_of_ble_eq_true rfl, Nat.le_of_ble_eq_true rfl⟩) (hcs := ⟨Nat.le_of_ble_eq_true rfl, Nat.le_of_ble_eq_true rfl⟩) (fun v_ w_ hp_ => ?_)
            obtain ⟨rfl, rfl⟩ := hp_
            show Wx _ _ _ _ _ _ _ _ _ _ _ _ _ _ _ _ 109 [(7, .int (iI ((grp g ((lt (m - 1)).toNat) : Nat) : Int))), (6, .int (iI ((grp g ((lf (m - 1)).toNat) : Nat) : Int))), (5, .int (iI (5 - ((popc tree : Nat) : Int)))), (0, .ref k), (1, .int (iI link)), (2, .int (iI (tree : Int))), (3, .int (iI (g : Int))), (4, .ref h)] [.int (iI ((unt g (grp g ((lf (m - 1)).toNat)) (grp g ((lt (m - 1)).toNat)) 6 : Nat) : Int)), .int (iI ((tree ||| 2 ^ (m - 1) : Nat) : Int)), .int (iI (link - 1)), .ref k] [(k, ob 8 [.ref lk, .int (iI s0), .ref lk]), (lk, ob 2 [.ref la_, .ref lb_, .int (iI (nl : Int)), .ref lf_, .ref lt_]), (lf_, ia E 14 lf), (lt_, ia E 14 lt), (h, ob 7 [.ref hb, .ref ha, .ref hc, .int (iI (n2_52 : Int)), .int (iI sg)]), (hb, ia E 2002 fb2_52)]
            refine x_aload (pc' := 111) C 7 dX9_hang_109 rfl rfl ?_
            refine x_callV (pc' := 114) (As := [.int (iI (link - 1)), .int (iI ((tree ||| 2 ^ (m - 1) : Nat) : Int)), .int (iI ((unt g (grp g ((lf (m - 1)).toNat)) (grp g ((lt (m - 1)).toNat)) 6 : Nat) : Int)), .ref h]) (rest := []) (q0 := 0) C rfl rfl cv_X9_22_X9 dX9_hang_111 rfl (c_X9_hang_10 l E k lk la_ lb_ lf_ lt_ nl s0 lf lt h hb ha hc sg fb2_52 n2_52 (m - 1) (tree ||| 2 ^ (m - 1)) (unt g (grp g ((lf (m - 1)).toNat)) (grp g ((lt (m - 1)).toNat)) 6) (link - 1) xs2_52 (show nl ≤ 14 from by omega) (show ∀ j_ : Nat, j_ < nl → 0 ≤ lf j_ ∧ lf j_ ≤ 5 from hlf) (show ∀ j_ : Nat, j_ < nl → 0 ≤ lt j_ ∧ lt j_ ≤ 5 from hlt) (show (hg lf lt (m - 1) (tree ||| 2 ^ (m - 1)) (unt g (grp g ((lf (m - 1)).toNat)) (grp g ((lt (m - 1)).toNat)) 6)).length + xs2_52.length ≤ 2002 from by have hq_ := g52_p.length_eq; rw [List.length_append] at hq_; rw [hV2, List.length_append] at hcap; omega) (show ((link - 1) + 1).toNat = (m - 1) ∧ -1 ≤ (link - 1) from by omega) (show (m - 1) ≤ 10 ∧ (m - 1) ≤ nl from by omega) (show (tree ||| 2 ^ (m - 1)) < 16384 from or_bd (N := 14) htr (by omega)) (show (unt g (grp g ((lf (m - 1)).toNat)) (grp g ((lt (m - 1)).toNat)) 6) < 262144 from unt_bd (g := g) hgg (grp_le _ _) (grp_le _ _) 6 (by decide)) (show xs2_52.length = n2_52 from g52_l) (show LsA fb2_52 xs2_52 from g52_s) (show xs2_52.Pairwise (· ≤ ·) from g52_o) (show ∀ x_ ∈ xs2_52, x_ < 16384 from g52_b)) mm_X9_hang (hstk := rfl) (hlen := rfl) (hcat := Nat.le_of_ble_eq_true rfl) (isC := [0, 1, 2, 3, 4, 5]) (isR := []) (wr := []) (hC := rfl) (hR := rfl) (hnC := rfl) (hn := rfl) (hdis := by decide) (hR1 := ⟨Nat.le_of_ble_eq_true rfl, Nat.le_of_ble_eq_true rfl⟩) (hcs := ⟨Nat.le_of_ble_eq_true rfl, Nat.le_of_ble_eq_true rfl⟩) (fun v_ w_ hp_ => ?_)
            obtain ⟨n2_111, fb2_111, xs2_111, rfl, rfl, g111_l, g111_s, g111_o, g111_p, g111_b⟩ := hp_
            replace g111_l : xs2_111.length = n2_111 := g111_l
            replace g111_s : LsA fb2_111 xs2_111 := g111_s
            replace g111_o : xs2_111.Pairwise (· ≤ ·) := g111_o
            replace g111_p : xs2_111.Perm (hg lf lt (m - 1) (tree ||| 2 ^ (m - 1)) (unt g (grp g ((lf (m - 1)).toNat)) (grp g ((lt (m - 1)).toNat)) 6) ++ xs2_52) := g111_p
            replace g111_b : ∀ x_ ∈ xs2_111, x_ < 16384 := g111_b
            show Wx _ _ _ _ _ _ _ _ _ _ _ _ _ _ _ _ 114 [(7, .int (iI ((grp g ((lt (m - 1)).toNat) : Nat) : Int))), (6, .int (iI ((grp g ((lf (m - 1)).toNat) : Nat) : Int))), (5, .int (iI (5 - ((popc tree : Nat) : Int)))), (0, .ref k), (1, .int (iI link)), (2, .int (iI (tree : Int))), (3, .int (iI (g : Int))), (4, .ref h)] [] [(k, ob 8 [.ref lk, .int (iI s0), .ref lk]), (lk, ob 2 [.ref la_, .ref lb_, .int (iI (nl : Int)), .ref lf_, .ref lt_]), (lf_, ia E 14 lf), (lt_, ia E 14 lt), (h, ob 7 [.ref hb, .ref ha, .ref hc, .int (iI (n2_111 : Int)), .int (iI sg)]), (hb, ia E 2002 fb2_111)]
            exact x_vret C hr dX9_hang_114 ⟨n2_111, fb2_111, xs2_111, rfl, rfl, (show xs2_111.length = n2_111 from g111_l), (show LsA fb2_111 xs2_111 from g111_s), (show xs2_111.Pairwise (· ≤ ·) from g111_o), (show xs2_111.Perm (hg lf lt m tree g ++ xs) from two_perm hV2 g52_p g111_p), (show ∀ x_ ∈ xs2_111, x_ < 16384 from g111_b)⟩
        ·
          exact x_vret C hr dX9_hang_43 ⟨n, fb, xs, rfl, rfl, (show xs.length = n from hlen), (show LsA fb xs from hls), (show xs.Pairwise (· ≤ ·) from hso), (show xs.Perm (hg lf lt m tree g ++ xs) from by rw [hg_0 (by omega) (by omega)]; exact List.Perm.refl _), (show ∀ x_ ∈ xs, x_ < 16384 from hbd)⟩
  ·
    refine x_aload (pc' := 15) C 5 dX9_hang_13 rfl rfl ?_
    refine x_iload_n (pc' := 16) C 3 dX9_hang_15 rfl rfl ?_
    refine x_callV (pc' := 19) (As := [.int (iI (tree : Int))]) (rest := []) (q0 := 0) C rfl rfl cv_X9_32_X8 dX9_hang_16 rfl (c_X8_insert l E h hb ha hc n tree sg fb xs (show n < 2002 from by rw [hg_5 (show popc tree = 5 by omega), List.length_singleton] at hcap; omega) (show tree < 1000000 from by omega) (show xs.length = n from hlen) (show LsA fb xs from hls) (show xs.Pairwise (· ≤ ·) from hso) (show ∀ j (h : j < xs.length), xs[j] < 1000000 from get_bd (fun x_ hx_ => Nat.lt_trans (hbd x_ hx_) (by decide)))) mm_X8_insert (hstk := rfl) (hlen := rfl) (hcat := Nat.le_of_ble_eq_true rfl) (isC := [4, 5]) (isR := [0, 1, 2, 3]) (wr := [(k, ob 8 [.ref lk, .int (iI s0), .ref lk]), (lk, ob 2 [.ref la_, .ref lb_, .int (iI (nl : Int)), .ref lf_, .ref lt_]), (lf_, ia E 14 lf), (lt_, ia E 14 lt)]) (hC := rfl) (hR := rfl) (hnC := rfl) (hn := rfl) (hdis := by decide) (hR1 := ⟨Nat.le_of_ble_eq_true rfl, Nat.le_of_ble_eq_true rfl⟩) (hcs := ⟨Nat.le_of_ble_eq_true rfl, Nat.le_of_ble_eq_true rfl⟩) (fun v_ w_ hp_ => ?_)
    obtain ⟨fb2_16, xs2_16, rfl, rfl, g16_l, g16_s, g16_o, g16_p⟩ := hp_
    replace g16_l : xs2_16.length = n + 1 := g16_l
    replace g16_s : LsA fb2_16 xs2_16 := g16_s
    replace g16_o : xs2_16.Pairwise (· ≤ ·) := g16_o
    replace g16_p : xs2_16.Perm (tree :: xs) := g16_p
    show Wx _ _ _ _ _ _ _ _ _ _ _ _ _ _ _ _ 19 [(5, .int (iI (5 - ((popc tree : Nat) : Int)))), (0, .ref k), (1, .int (iI link)), (2, .int (iI (tree : Int))), (3, .int (iI (g : Int))), (4, .ref h)] [] [(k, ob 8 [.ref lk, .int (iI s0), .ref lk]), (lk, ob 2 [.ref la_, .ref lb_, .int (iI (nl : Int)), .ref lf_, .ref lt_]), (lf_, ia E 14 lf), (lt_, ia E 14 lt), (h, ob 7 [.ref hb, .ref ha, .ref hc, .int (iI ((n + 1 : Nat) : Int)), .int (iI sg)]), (hb, ia E 2002 fb2_16)]
    exact x_vret C hr dX9_hang_19 ⟨(n + 1), fb2_16, xs2_16, rfl, rfl, (show xs2_16.length = (n + 1) from g16_l), (show LsA fb2_16 xs2_16 from g16_s), (show xs2_16.Pairwise (· ≤ ·) from g16_o), (show xs2_16.Perm (hg lf lt m tree g ++ xs) from by rw [hg_5 (show popc tree = 5 by omega)]; exact g16_p), (show ∀ x_ ∈ xs2_16, x_ < 16384 from mem_bd (L := [tree]) g16_p (one_bd htr) hbd)⟩

set_option maxHeartbeats 4000000 in
set_option maxRecDepth 100000 in
theorem c_X9_hang_12 (l : Launch) (E : EV) (k : Nat) (lk : Nat) (la_ : Nat) (lb_ : Nat) (lf_ : Nat) (lt_ : Nat) (nl : Nat) (s0 : Int) (lf : Nat → Int) (lt : Nat → Int) (h : Nat) (hb : Nat) (ha : Nat) (hc : Nat) (sg : Int) (fb : Nat → Int) (n : Nat) (m : Nat) (tree : Nat) (g : Nat) (link : Int) (xs : List Nat) (hnl : nl ≤ 14) (hlf : ∀ j_ : Nat, j_ < nl → 0 ≤ lf j_ ∧ lf j_ ≤ 5) (hlt : ∀ j_ : Nat, j_ < nl → 0 ≤ lt j_ ∧ lt j_ ≤ 5) (hcap : (hg lf lt m tree g).length + xs.length ≤ 2002) (hm : (link + 1).toNat = m ∧ -1 ≤ link) (hmL : m ≤ 12 ∧ m ≤ nl) (htr : tree < 16384) (hgg : g < 262144) (hlen : xs.length = n) (hls : LsA fb xs) (hso : xs.Pairwise (· ≤ ·)) (hbd : ∀ x_ ∈ xs, x_ < 16384) : MC l E yX9_hang cX9_hang 8 (none) ({ frames := 13, cells := 0, slots := 0, locals := 346 }) [.ref k, .int (iI link), .int (iI (tree : Int)), .int (iI (g : Int)), .ref h] [(k, ob 8 [.ref lk, .int (iI s0), .ref lk]), (lk, ob 2 [.ref la_, .ref lb_, .int (iI (nl : Int)), .ref lf_, .ref lt_]), (lf_, ia E 14 lf), (lt_, ia E 14 lt), (h, ob 7 [.ref hb, .ref ha, .ref hc, .int (iI (n : Int)), .int (iI sg)]), (hb, ia E 2002 fb)] (fun v_ w_ => ∃ (n2 : Nat) (fb2 : Nat → Int) (xs2 : List Nat), v_ = none ∧ w_ = [(k, ob 8 [.ref lk, .int (iI s0), .ref lk]), (lk, ob 2 [.ref la_, .ref lb_, .int (iI (nl : Int)), .ref lf_, .ref lt_]), (lf_, ia E 14 lf), (lt_, ia E 14 lt), (h, ob 7 [.ref hb, .ref ha, .ref hc, .int (iI (n2 : Int)), .int (iI sg)]), (hb, ia E 2002 fb2)] ∧ (xs2.length = n2) ∧ (LsA fb2 xs2) ∧ (xs2.Pairwise (· ≤ ·)) ∧ (xs2.Perm (hg lf lt m tree g ++ xs)) ∧ (∀ x_ ∈ xs2, x_ < 16384)) := by
  refine MC.of (by decide +kernel) (Nat.le_of_ble_eq_true rfl) ?_
  intro p_ e_ s_ m_ args_ below_ meth_ c_ A_ C hr hnm
  have C : Cx p_ s_ m_ args_ meth_ c_ E A_ 8 cX9_hang RX9 := C
  have hpc := popc_le tree
  show Wx _ _ _ _ _ _ _ _ _ _ _ _ _ _ _ _ 0 [(0, .ref k), (1, .int (iI link)), (2, .int (iI (tree : Int))), (3, .int (iI (g : Int))), (4, .ref h)] [] [(k, ob 8 [.ref lk, .int (iI s0), .ref lk]), (lk, ob 2 [.ref la_, .ref lb_, .int (iI (nl : Int)), .ref lf_, .ref lt_]), (lf_, ia E 14 lf), (lt_, ia E 14 lt), (h, ob 7 [.ref hb, .ref ha, .ref hc, .int (iI (n : Int)), .int (iI sg)]), (hb, ia E 2002 fb)]
  refine x_iconst (pc' := 1) C dX9_hang_0 rfl ?_
  refine x_iload_n (pc' := 2) C 2 dX9_hang_1 rfl rfl ?_
  refine x_callS (pc' := 5) (As := [.int (iI (tree : Int))]) (rest := [.int (iI 5)]) C cs_X9_26 dX9_hang_2 rfl (c_J6_bitCount_0f7a4 l E tree (show tree < 1000000 from by omega)) mm_J6_bitCount_0f7a4 (hstk := rfl) (hlen := rfl) (hcat := Nat.le_of_ble_eq_true rfl) (isC := []) (isR := [0, 1, 2, 3, 4, 5]) (wr := [(k, ob 8 [.ref lk, .int (iI s0), .ref lk]), (lk, ob 2 [.ref la_, .ref lb_, .int (iI (nl : Int)), .ref lf_, .ref lt_]), (lf_, ia E 14 lf), (lt_, ia E 14 lt), (h, ob 7 [.ref hb, .ref ha, .ref hc, .int (iI (n : Int)), .int (iI sg)]), (hb, ia E 2002 fb)]) (hC := rfl) (hR := rfl) (hnC := rfl) (hn := rfl) (hdis := by decide) (hR1 := ⟨Nat.le_of_ble_eq_true rfl, Nat.le_of_ble_eq_true rfl⟩) (hcs := ⟨Nat.le_of_ble_eq_true rfl, Nat.le_of_ble_eq_true rfl⟩) (fun v_ w_ hp_ => ?_)
  obtain ⟨rfl, rfl⟩ := hp_
  show Wx _ _ _ _ _ _ _ _ _ _ _ _ _ _ _ _ 5 [(0, .ref k), (1, .int (iI link)), (2, .int (iI (tree : Int))), (3, .int (iI (g : Int))), (4, .ref h)] [.int (iI ((popc tree : Nat) : Int)), .int (iI 5)] [(k, ob 8 [.ref lk, .int (iI s0), .ref lk]), (lk, ob 2 [.ref la_, .ref lb_, .int (iI (nl : Int)), .ref lf_, .ref lt_]), (lf_, ia E 14 lf), (lt_, ia E 14 lt), (h, ob 7 [.ref hb, .ref ha, .ref hc, .int (iI (n : Int)), .int (iI sg)]), (hb, ia E 2002 fb)]
  refine x_isub (pc' := 6) C dX9_hang_5 rfl ?_
  refine x_istore (pc' := 8) (lv' := [(5, .int (iI (5 - ((popc tree : Nat) : Int)))), (0, .ref k), (1, .int (iI link)), (2, .int (iI (tree : Int))), (3, .int (iI (g : Int))), (4, .ref h)]) C dX9_hang_6 rfl (by decide) rfl ?_
  refine x_iload (pc' := 10) C 0 dX9_hang_8 rfl rfl ?_
  refine x_if_ne (pc' := 13) (tgt := 20) C dX9_hang_10 rfl (by decide) (by omega) (fun c10 => ?_) (fun c10 => ?_)
  ·
    refine x_iload_n (pc' := 21) C 2 dX9_hang_20 rfl rfl ?_
    refine x_if_lt (pc' := 24) (tgt := 43) C dX9_hang_21 rfl (by decide) (by omega) (fun c21 => ?_) (fun c21 => ?_)
    ·
      exact x_vret C hr dX9_hang_43 ⟨n, fb, xs, rfl, rfl, (show xs.length = n from hlen), (show LsA fb xs from hls), (show xs.Pairwise (· ≤ ·) from hso), (show xs.Perm (hg lf lt m tree g ++ xs) from by rw [hg_0 (by omega) (by omega)]; exact List.Perm.refl _), (show ∀ x_ ∈ xs, x_ < 16384 from hbd)⟩
    ·
      refine x_iload_n (pc' := 25) C 2 dX9_hang_24 rfl rfl ?_
      refine x_aload_n (pc' := 26) C 1 dX9_hang_25 rfl rfl ?_
      refine x_get (pc' := 29) C dX9_hang_26 rfl ff_X9_9_8 0 rfl rfl ?_
      refine x_get (pc' := 32) C dX9_hang_29 rfl ff_X9_15_2 1 rfl rfl ?_
      refine x_icmp_ge (pc' := 35) (tgt := 43) C dX9_hang_32 rfl (by decide) (by omega) (by omega) (fun c32 => ?_) (fun c32 => ?_)
      ·
        exact absurd c32 (by omega)
      ·
        refine x_iload_n (pc' := 36) C 2 dX9_hang_35 rfl rfl ?_
        refine x_iconst (pc' := 37) C dX9_hang_36 rfl ?_
        refine x_iadd (pc' := 38) C dX9_hang_37 rfl ?_
        refine x_iload (pc' := 40) C 0 dX9_hang_38 rfl rfl ?_
        refine x_icmp_ge (pc' := 43) (tgt := 44) C dX9_hang_40 rfl (by decide) (by omega) (by omega) (fun c40 => ?_) (fun c40 => ?_)
        ·
          have hV := hg_s (lf := lf) (lt := lt) (m := m) (tree := tree) (g := g) (by omega) (by omega) (by omega)
          have hf1 := hlf (m - 1) (by omega)
          have ht1 := hlt (m - 1) (by omega)
          have hga := grp_le g (lf (m - 1)).toNat
          have hgb := grp_le g (lt (m - 1)).toNat
          refine x_aload_n (pc' := 45) C 1 dX9_hang_44 rfl rfl ?_
          refine x_iload_n (pc' := 46) C 2 dX9_hang_45 rfl rfl ?_
          refine x_iconst (pc' := 47) C dX9_hang_46 rfl ?_
          refine x_isub (pc' := 48) C dX9_hang_47 rfl ?_
          refine x_iload_n (pc' := 49) C 3 dX9_hang_48 rfl rfl ?_
          refine x_iload_n (pc' := 50) C 4 dX9_hang_49 rfl rfl ?_
          refine x_aload (pc' := 52) C 5 dX9_hang_50 rfl rfl ?_
          refine x_callV (pc' := 55) (As := [.int (iI (link - 1)), .int (iI (tree : Int)), .int (iI (g : Int)), .ref h]) (rest := []) (q0 := 0) C rfl rfl cv_X9_22_X9 dX9_hang_52 rfl (c_X9_hang_11 l E k lk la_ lb_ lf_ lt_ nl s0 lf lt h hb ha hc sg fb n (m - 1) tree g (link - 1) xs (show nl ≤ 14 from by omega) (show ∀ j_ : Nat, j_ < nl → 0 ≤ lf j_ ∧ lf j_ ≤ 5 from hlf) (show ∀ j_ : Nat, j_ < nl → 0 ≤ lt j_ ∧ lt j_ ≤ 5 from hlt) (show (hg lf lt (m - 1) tree g).length + xs.length ≤ 2002 from by rw [hV, List.length_append] at hcap; omega) (show ((link - 1) + 1).toNat = (m - 1) ∧ -1 ≤ (link - 1) from by omega) (show (m - 1) ≤ 11 ∧ (m - 1) ≤ nl from by omega) (show tree < 16384 from htr) (show g < 262144 from hgg) (show xs.length = n from hlen) (show LsA fb xs from hls) (show xs.Pairwise (· ≤ ·) from hso) (show ∀ x_ ∈ xs, x_ < 16384 from hbd)) mm_X9_hang (hstk := rfl) (hlen := rfl) (hcat := Nat.le_of_ble_eq_true rfl) (isC := [0, 1, 2, 3, 4, 5]) (isR := []) (wr := []) (hC := rfl) (hR := rfl) (hnC := rfl) (hn := rfl) (hdis := by decide) (hR1 := ⟨Nat.le_of_ble_eq_true rfl, Nat.le_of_ble_eq_true rfl⟩) (hcs := ⟨Nat.le_of_ble_eq_true rfl, Nat.le_of_ble_eq_true rfl⟩) (fun v_ w_ hp_ => ?_)
          obtain ⟨n2_52, fb2_52, xs2_52, rfl, rfl, g52_l, g52_s, g52_o, g52_p, g52_b⟩ := hp_
          replace g52_l : xs2_52.length = n2_52 := g52_l
          replace g52_s : LsA fb2_52 xs2_52 := g52_s
          replace g52_o : xs2_52.Pairwise (· ≤ ·) := g52_o
          replace g52_p : xs2_52.Perm (hg lf lt (m - 1) tree g ++ xs) := g52_p
          replace g52_b : ∀ x_ ∈ xs2_52, x_ < 16384 := g52_b
          show Wx _ _ _ _ _ _ _ _ _ _ _ _ _ _ _ _ 55 [(5, .int (iI (5 - ((popc tree : Nat) : Int)))), (0, .ref k), (1, .int (iI link)), (2, .int (iI (tree : Int))), (3, .int (iI (g : Int))), (4, .ref h)] [] [(k, ob 8 [.ref lk, .int (iI s0), .ref lk]), (lk, ob 2 [.ref la_, .ref lb_, .int (iI (nl : Int)), .ref lf_, .ref lt_]), (lf_, ia E 14 lf), (lt_, ia E 14 lt), (h, ob 7 [.ref hb, .ref ha, .ref hc, .int (iI (n2_52 : Int)), .int (iI sg)]), (hb, ia E 2002 fb2_52)]
          refine x_iload_n (pc' := 56) C 4 dX9_hang_55 rfl rfl ?_
          refine x_aload_n (pc' := 57) C 1 dX9_hang_56 rfl rfl ?_
          refine x_get (pc' := 60) C dX9_hang_57 rfl ff_X9_9_8 0 rfl rfl ?_
          refine x_get (pc' := 63) C dX9_hang_60 rfl ff_X9_38_2 1 rfl rfl ?_
          refine x_iload_n (pc' := 64) C 2 dX9_hang_63 rfl rfl ?_
          refine x_iald (pc' := 65) C (m - 1) dX9_hang_64 rfl 2 rfl (by omega) (by omega) (by omega) ?_
          refine x_top (b := .int (iI (((lf (m - 1)).toNat : Nat) : Int))) (by congr 2; omega) ?_
          refine x_callS (pc' := 68) (As := [.int (iI (g : Int)), .int (iI (((lf (m - 1)).toNat : Nat) : Int))]) (rest := []) C cs_X9_42 dX9_hang_65 rfl (c_X9_groupOf l E g ((lf (m - 1)).toNat) (show g < 1000000 from by omega) (show ((lf (m - 1)).toNat) ≤ 5 from by omega)) mm_X9_groupOf (hstk := rfl) (hlen := rfl) (hcat := Nat.le_of_ble_eq_true rfl) (isC := []) (isR := [0, 1, 2, 3, 4, 5]) (wr := [(k, ob 8 [.ref lk, .int (iI s0), .ref lk]), (lk, ob 2 [.ref la_, .ref lb_, .int (iI (nl : Int)), .ref lf_, .ref lt_]), (lf_, ia E 14 lf), (lt_, ia E 14 lt), (h, ob 7 [.ref hb, .ref ha, .ref hc, .int (iI (n2_52 : Int)), .int (iI sg)]), (hb, ia E 2002 fb2_52)]) (hC := rfl) (hR := rfl) (hnC := rfl) (hn := rfl) (hdis := by decide) (hR1 := ⟨Nat.le_of_ble_eq_true rfl, Nat.le_of_ble_eq_true rfl⟩) (hcs := ⟨Nat.le_of_ble_eq_true rfl, Nat.le_of_ble_eq_true rfl⟩) (fun v_ w_ hp_ => ?_)
          obtain ⟨rfl, rfl⟩ := hp_
          show Wx _ _ _ _ _ _ _ _ _ _ _ _ _ _ _ _ 68 [(5, .int (iI (5 - ((popc tree : Nat) : Int)))), (0, .ref k), (1, .int (iI link)), (2, .int (iI (tree : Int))), (3, .int (iI (g : Int))), (4, .ref h)] [.int (iI ((grp g ((lf (m - 1)).toNat) : Nat) : Int))] [(k, ob 8 [.ref lk, .int (iI s0), .ref lk]), (lk, ob 2 [.ref la_, .ref lb_, .int (iI (nl : Int)), .ref lf_, .ref lt_]), (lf_, ia E 14 lf), (lt_, ia E 14 lt), (h, ob 7 [.ref hb, .ref ha, .ref hc, .int (iI (n2_52 : Int)), .int (iI sg)]), (hb, ia E 2002 fb2_52)]
          refine x_istore (pc' := 70) (lv' := [(6, .int (iI ((grp g ((lf (m - 1)).toNat) : Nat) : Int))), (5, .int (iI (5 - ((popc tree : Nat) : Int)))), (0, .ref k), (1, .int (iI link)), (2, .int (iI (tree : Int))), (3, .int (iI (g : Int))), (4, .ref h)]) C dX9_hang_68 rfl (by decide) rfl ?_
          refine x_iload_n (pc' := 71) C 5 dX9_hang_70 rfl rfl ?_
          refine x_aload_n (pc' := 72) C 2 dX9_hang_71 rfl rfl ?_
          refine x_get (pc' := 75) C dX9_hang_72 rfl ff_X9_9_8 0 rfl rfl ?_
          refine x_get (pc' := 78) C dX9_hang_75 rfl ff_X9_46_2 1 rfl rfl ?_
          refine x_iload_n (pc' := 79) C 3 dX9_hang_78 rfl rfl ?_
          refine x_iald (pc' := 80) C (m - 1) dX9_hang_79 rfl 3 rfl (by omega) (by omega) (by omega) ?_
          refine x_top (b := .int (iI (((lt (m - 1)).toNat : Nat) : Int))) (by congr 2; omega) ?_
          refine x_callS (pc' := 83) (As := [.int (iI (g : Int)), .int (iI (((lt (m - 1)).toNat : Nat) : Int))]) (rest := []) C cs_X9_42 dX9_hang_80 rfl (c_X9_groupOf l E g ((lt (m - 1)).toNat) (show g < 1000000 from by omega) (show ((lt (m - 1)).toNat) ≤ 5 from by omega)) mm_X9_groupOf (hstk := rfl) (hlen := rfl) (hcat := Nat.le_of_ble_eq_true rfl) (isC := []) (isR := [0, 1, 2, 3, 4, 5]) (wr := [(k, ob 8 [.ref lk, .int (iI s0), .ref lk]), (lk, ob 2 [.ref la_, .ref lb_, .int (iI (nl : Int)), .ref lf_, .ref lt_]), (lf_, ia E 14 lf), (lt_, ia E 14 lt), (h, ob 7 [.ref hb, .ref ha, .ref hc, .int (iI (n2_52 : Int)), .int (iI sg)]), (hb, ia E 2002 fb2_52)]) (hC := rfl) (hR := rfl) (hnC := rfl) (hn := rfl) (hdis := by decide) (hR1 := ⟨Nat.le_of_ble_eq_true rfl, Nat.le_of_ble_eq_true rfl⟩) (hcs := ⟨Nat.le_of_ble_eq_true rfl, Nat.le_of_ble_eq_true rfl⟩) (fun v_ w_ hp_ => ?_)
          obtain ⟨rfl, rfl⟩ := hp_
          show Wx _ _ _ _ _ _ _ _ _ _ _ _ _ _ _ _ 83 [(6, .int (iI ((grp g ((lf (m - 1)).toNat) : Nat) : Int))), (5, .int (iI (5 - ((popc tree : Nat) : Int)))), (0, .ref k), (1, .int (iI link)), (2, .int (iI (tree : Int))), (3, .int (iI (g : Int))), (4, .ref h)] [.int (iI ((grp g ((lt (m - 1)).toNat) : Nat) : Int))] [(k, ob 8 [.ref lk, .int (iI s0), .ref lk]), (lk, ob 2 [.ref la_, .ref lb_, .int (iI (nl : Int)), .ref lf_, .ref lt_]), (lf_, ia E 14 lf), (lt_, ia E 14 lt), (h, ob 7 [.ref hb, .ref ha, .ref hc, .int (iI (n2_52 : Int)), .int (iI sg)]), (hb, ia E 2002 fb2_52)]
          refine x_istore (pc' := 85) (lv' := [(7, .int (iI ((grp g ((lt (m - 1)).toNat) : Nat) : Int))), (6, .int (iI ((grp g ((lf (m - 1)).toNat) : Nat) : Int))), (5, .int (iI (5 - ((popc tree : Nat) : Int)))), (0, .ref k), (1, .int (iI link)), (2, .int (iI (tree : Int))), (3, .int (iI (g : Int))), (4, .ref h)]) C dX9_hang_83 rfl (by decide) rfl ?_
          refine x_iload (pc' := 87) C 1 dX9_hang_85 rfl rfl ?_
          refine x_iload (pc' := 89) C 0 dX9_hang_87 rfl rfl ?_
          refine x_icmp_eq (pc' := 92) (tgt := 114) C dX9_hang_89 rfl (by decide) (by omega) (by omega) (fun c89 => ?_) (fun c89 => ?_)
          ·
            exact x_vret C hr dX9_hang_114 ⟨n2_52, fb2_52, xs2_52, rfl, rfl, (show xs2_52.length = n2_52 from g52_l), (show LsA fb2_52 xs2_52 from g52_s), (show xs2_52.Pairwise (· ≤ ·) from g52_o), (show xs2_52.Perm (hg lf lt m tree g ++ xs) from two_perm (W := []) (by rw [hV, if_pos (by omega)]) g52_p (List.Perm.refl _)), (show ∀ x_ ∈ xs2_52, x_ < 16384 from g52_b)⟩
          ·
            have hV2 := hV
            rw [if_neg (by omega)] at hV2
            refine x_aload_n (pc' := 93) C 3 dX9_hang_92 rfl rfl ?_
            refine x_iload_n (pc' := 94) C 4 dX9_hang_93 rfl rfl ?_
            refine x_iconst (pc' := 95) C dX9_hang_94 rfl ?_
            refine x_isub (pc' := 96) C dX9_hang_95 rfl ?_
            refine x_iload_n (pc' := 97) C 5 dX9_hang_96 rfl rfl ?_
            refine x_iconst (pc' := 98) C dX9_hang_97 rfl ?_
            refine x_iload_n (pc' := 99) C 4 dX9_hang_98 rfl rfl ?_
            refine x_ishl (pc' := 100) (z := (iI ((2 ^ (m - 1) : Nat) : Int))) C dX9_hang_99 rfl (by rw [show link = ((m - 1 : Nat) : Int) by omega]; exact bt_shl (by omega)) ?_
            refine x_ior (pc' := 101) (z := (iI ((tree ||| 2 ^ (m - 1) : Nat) : Int))) C dX9_hang_100 rfl (bt_or _ _) ?_
            refine x_iload_n (pc' := 102) C 6 dX9_hang_101 rfl rfl ?_
            refine x_iload (pc' := 104) C 1 dX9_hang_102 rfl rfl ?_
            refine x_iload (pc' := 106) C 0 dX9_hang_104 rfl rfl ?_
            refine x_callS (pc' := 109) (As := [.int (iI (g : Int)), .int (iI ((grp g ((lf (m - 1)).toNat) : Nat) : Int)), .int (iI ((grp g ((lt (m - 1)).toNat) : Nat) : Int))]) (rest := [.int (iI ((tree ||| 2 ^ (m - 1) : Nat) : Int)), .int (iI (link - 1)), .ref k]) C cs_X9_49 dX9_hang_106 rfl (c_X9_unite l E g (grp g ((lf (m - 1)).toNat)) (grp g ((lt (m - 1)).toNat)) (show g < 262144 from by omega) (show (grp g ((lf (m - 1)).toNat)) ≤ 7 from by omega) (show (grp g ((lt (m - 1)).toNat)) ≤ 7 from by omega)) mm_X9_unite (hstk := rfl) (hlen := rfl) (hcat := Nat.le_of_ble_eq_true rfl) (isC := []) (isR := [0, 1, 2, 3, 4, 5]) (wr := [(k, ob 8 [.ref lk, .int (iI s0), .ref lk]), (lk, ob 2 [.ref la_, .ref lb_, .int (iI (nl : Int)), .ref lf_, .ref lt_]), (lf_, ia E 14 lf), (lt_, ia E 14 lt), (h, ob 7 [.ref hb, .ref ha, .ref hc, .int (iI (n2_52 : Int)), .int (iI sg)]), (hb, ia E 2002 fb2_52)]) (hC := rfl) (hR := rfl) (hnC := rfl) (hn := rfl) (hdis := by decide) (hR1 := ⟨Nat.le_of_ble_eq_true rfl, Nat.le_of_ble_eq_true rfl⟩) (hcs := ⟨Nat.le_of_ble_eq_true rfl, Nat.le_of_ble_eq_true rfl⟩) (fun v_ w_ hp_ => ?_)
            obtain ⟨rfl, rfl⟩ := hp_
            show Wx _ _ _ _ _ _ _ _ _ _ _ _ _ _ _ _ 109 [(7, .int (iI ((grp g ((lt (m - 1)).toNat) : Nat) : Int))), (6, .int (iI ((grp g ((lf (m - 1)).toNat) : Nat) : Int))), (5, .int (iI (5 - ((popc tree : Nat) : Int)))), (0, .ref k), (1, .int (iI link)), (2, .int (iI (tree : Int))), (3, .int (iI (g : Int))), (4, .ref h)] [.int (iI ((unt g (grp g ((lf (m - 1)).toNat)) (grp g ((lt (m - 1)).toNat)) 6 : Nat) : Int)), .int (iI ((tree ||| 2 ^ (m - 1) : Nat) : Int)), .int (iI (link - 1)), .ref k] [(k, ob 8 [.ref lk, .int (iI s0), .ref lk]), (lk, ob 2 [.ref la_, .ref lb_, .int (iI (nl : Int)), .ref lf_, .ref lt_]), (lf_, ia E 14 lf), (lt_, ia E 14 lt), (h, ob 7 [.ref hb, .ref ha, .ref hc, .int (iI (n2_52 : Int)), .int (iI sg)]), (hb, ia E 2002 fb2_52)]
            refine x_aload (pc' := 111) C 7 dX9_hang_109 rfl rfl ?_
            refine x_callV (pc' := 114) (As := [.int (iI (link - 1)), .int (iI ((tree ||| 2 ^ (m - 1) : Nat) : Int)), .int (iI ((unt g (grp g ((lf (m - 1)).toNat)) (grp g ((lt (m - 1)).toNat)) 6 : Nat) : Int)), .ref h]) (rest := []) (q0 := 0) C rfl rfl cv_X9_22_X9 dX9_hang_111 rfl (c_X9_hang_11 l E k lk la_ lb_ lf_ lt_ nl s0 lf lt h hb ha hc sg fb2_52 n2_52 (m - 1) (tree ||| 2 ^ (m - 1)) (unt g (grp g ((lf (m - 1)).toNat)) (grp g ((lt (m - 1)).toNat)) 6) (link - 1) xs2_52 (show nl ≤ 14 from by omega) (show ∀ j_ : Nat, j_ < nl → 0 ≤ lf j_ ∧ lf j_ ≤ 5 from hlf) (show ∀ j_ : Nat, j_ < nl → 0 ≤ lt j_ ∧ lt j_ ≤ 5 from hlt) (show (hg lf lt (m - 1) (tree ||| 2 ^ (m - 1)) (unt g (grp g ((lf (m - 1)).toNat)) (grp g ((lt (m - 1)).toNat)) 6)).length + xs2_52.length ≤ 2002 from by have hq_ := g52_p.length_eq; rw [List.length_append] at hq_; rw [hV2, List.length_append] at hcap; omega) (show ((link - 1) + 1).toNat = (m - 1) ∧ -1 ≤ (link - 1) from by omega) (show (m - 1) ≤ 11 ∧ (m - 1) ≤ nl from by omega) (show (tree ||| 2 ^ (m - 1)) < 16384 from or_bd (N := 14) htr (by omega)) (show (unt g (grp g ((lf (m - 1)).toNat)) (grp g ((lt (m - 1)).toNat)) 6) < 262144 from unt_bd (g := g) hgg (grp_le _ _) (grp_le _ _) 6 (by decide)) (show xs2_52.length = n2_52 from g52_l) (show LsA fb2_52 xs2_52 from g52_s) (show xs2_52.Pairwise (· ≤ ·) from g52_o) (show ∀ x_ ∈ xs2_52, x_ < 16384 from g52_b)) mm_X9_hang (hstk := rfl) (hlen := rfl) (hcat := Nat.le_of_ble_eq_true rfl) (isC := [0, 1, 2, 3, 4, 5]) (isR := []) (wr := []) (hC := rfl) (hR := rfl) (hnC := rfl) (hn := rfl) (hdis := by decide) (hR1 := ⟨Nat.le_of_ble_eq_true rfl, Nat.le_of_ble_eq_true rfl⟩) (hcs := ⟨Nat.le_of_ble_eq_true rfl, Nat.le_of_ble_eq_true rfl⟩) (fun v_ w_ hp_ => ?_)
            obtain ⟨n2_111, fb2_111, xs2_111, rfl, rfl, g111_l, g111_s, g111_o, g111_p, g111_b⟩ := hp_
            replace g111_l : xs2_111.length = n2_111 := g111_l
            replace g111_s : LsA fb2_111 xs2_111 := g111_s
            replace g111_o : xs2_111.Pairwise (· ≤ ·) := g111_o
            replace g111_p : xs2_111.Perm (hg lf lt (m - 1) (tree ||| 2 ^ (m - 1)) (unt g (grp g ((lf (m - 1)).toNat)) (grp g ((lt (m - 1)).toNat)) 6) ++ xs2_52) := g111_p
            replace g111_b : ∀ x_ ∈ xs2_111, x_ < 16384 := g111_b
            show Wx _ _ _ _ _ _ _ _ _ _ _ _ _ _ _ _ 114 [(7, .int (iI ((grp g ((lt (m - 1)).toNat) : Nat) : Int))), (6, .int (iI ((grp g ((lf (m - 1)).toNat) : Nat) : Int))), (5, .int (iI (5 - ((popc tree : Nat) : Int)))), (0, .ref k), (1, .int (iI link)), (2, .int (iI (tree : Int))), (3, .int (iI (g : Int))), (4, .ref h)] [] [(k, ob 8 [.ref lk, .int (iI s0), .ref lk]), (lk, ob 2 [.ref la_, .ref lb_, .int (iI (nl : Int)), .ref lf_, .ref lt_]), (lf_, ia E 14 lf), (lt_, ia E 14 lt), (h, ob 7 [.ref hb, .ref ha, .ref hc, .int (iI (n2_111 : Int)), .int (iI sg)]), (hb, ia E 2002 fb2_111)]
            exact x_vret C hr dX9_hang_114 ⟨n2_111, fb2_111, xs2_111, rfl, rfl, (show xs2_111.length = n2_111 from g111_l), (show LsA fb2_111 xs2_111 from g111_s), (show xs2_111.Pairwise (· ≤ ·) from g111_o), (show xs2_111.Perm (hg lf lt m tree g ++ xs) from two_perm hV2 g52_p g111_p), (show ∀ x_ ∈ xs2_111, x_ < 16384 from g111_b)⟩
        ·
          exact x_vret C hr dX9_hang_43 ⟨n, fb, xs, rfl, rfl, (show xs.length = n from hlen), (show LsA fb xs from hls), (show xs.Pairwise (· ≤ ·) from hso), (show xs.Perm (hg lf lt m tree g ++ xs) from by rw [hg_0 (by omega) (by omega)]; exact List.Perm.refl _), (show ∀ x_ ∈ xs, x_ < 16384 from hbd)⟩
  ·
    refine x_aload (pc' := 15) C 5 dX9_hang_13 rfl rfl ?_
    refine x_iload_n (pc' := 16) C 3 dX9_hang_15 rfl rfl ?_
    refine x_callV (pc' := 19) (As := [.int (iI (tree : Int))]) (rest := []) (q0 := 0) C rfl rfl cv_X9_32_X8 dX9_hang_16 rfl (c_X8_insert l E h hb ha hc n tree sg fb xs (show n < 2002 from by rw [hg_5 (show popc tree = 5 by omega), List.length_singleton] at hcap; omega) (show tree < 1000000 from by omega) (show xs.length = n from hlen) (show LsA fb xs from hls) (show xs.Pairwise (· ≤ ·) from hso) (show ∀ j (h : j < xs.length), xs[j] < 1000000 from get_bd (fun x_ hx_ => Nat.lt_trans (hbd x_ hx_) (by decide)))) mm_X8_insert (hstk := rfl) (hlen := rfl) (hcat := Nat.le_of_ble_eq_true rfl) (isC := [4, 5]) (isR := [0, 1, 2, 3]) (wr := [(k, ob 8 [.ref lk, .int (iI s0), .ref lk]), (lk, ob 2 [.ref la_, .ref lb_, .int (iI (nl : Int)), .ref lf_, .ref lt_]), (lf_, ia E 14 lf), (lt_, ia E 14 lt)]) (hC := rfl) (hR := rfl) (hnC := rfl) (hn := rfl) (hdis := by decide) (hR1 := ⟨Nat.le_of_ble_eq_true rfl, Nat.le_of_ble_eq_true rfl⟩) (hcs := ⟨Nat.le_of_ble_eq_true rfl, Nat.le_of_ble_eq_true rfl⟩) (fun v_ w_ hp_ => ?_)
    obtain ⟨fb2_16, xs2_16, rfl, rfl, g16_l, g16_s, g16_o, g16_p⟩ := hp_
    replace g16_l : xs2_16.length = n + 1 := g16_l
    replace g16_s : LsA fb2_16 xs2_16 := g16_s
    replace g16_o : xs2_16.Pairwise (· ≤ ·) := g16_o
    replace g16_p : xs2_16.Perm (tree :: xs) := g16_p
    show Wx _ _ _ _ _ _ _ _ _ _ _ _ _ _ _ _ 19 [(5, .int (iI (5 - ((popc tree : Nat) : Int)))), (0, .ref k), (1, .int (iI link)), (2, .int (iI (tree : Int))), (3, .int (iI (g : Int))), (4, .ref h)] [] [(k, ob 8 [.ref lk, .int (iI s0), .ref lk]), (lk, ob 2 [.ref la_, .ref lb_, .int (iI (nl : Int)), .ref lf_, .ref lt_]), (lf_, ia E 14 lf), (lt_, ia E 14 lt), (h, ob 7 [.ref hb, .ref ha, .ref hc, .int (iI ((n + 1 : Nat) : Int)), .int (iI sg)]), (hb, ia E 2002 fb2_16)]
    exact x_vret C hr dX9_hang_19 ⟨(n + 1), fb2_16, xs2_16, rfl, rfl, (show xs2_16.length = (n + 1) from g16_l), (show LsA fb2_16 xs2_16 from g16_s), (show xs2_16.Pairwise (· ≤ ·) from g16_o), (show xs2_16.Perm (hg lf lt m tree g ++ xs) from by rw [hg_5 (show popc tree = 5 by omega)]; exact g16_p), (show ∀ x_ ∈ xs2_16, x_ < 16384 from mem_bd (L := [tree]) g16_p (one_bd htr) hbd)⟩

set_option maxHeartbeats 4000000 in
set_option maxRecDepth 100000 in
theorem c_X9_hang_13 (l : Launch) (E : EV) (k : Nat) (lk : Nat) (la_ : Nat) (lb_ : Nat) (lf_ : Nat) (lt_ : Nat) (nl : Nat) (s0 : Int) (lf : Nat → Int) (lt : Nat → Int) (h : Nat) (hb : Nat) (ha : Nat) (hc : Nat) (sg : Int) (fb : Nat → Int) (n : Nat) (m : Nat) (tree : Nat) (g : Nat) (link : Int) (xs : List Nat) (hnl : nl ≤ 14) (hlf : ∀ j_ : Nat, j_ < nl → 0 ≤ lf j_ ∧ lf j_ ≤ 5) (hlt : ∀ j_ : Nat, j_ < nl → 0 ≤ lt j_ ∧ lt j_ ≤ 5) (hcap : (hg lf lt m tree g).length + xs.length ≤ 2002) (hm : (link + 1).toNat = m ∧ -1 ≤ link) (hmL : m ≤ 13 ∧ m ≤ nl) (htr : tree < 16384) (hgg : g < 262144) (hlen : xs.length = n) (hls : LsA fb xs) (hso : xs.Pairwise (· ≤ ·)) (hbd : ∀ x_ ∈ xs, x_ < 16384) : MC l E yX9_hang cX9_hang 8 (none) ({ frames := 14, cells := 0, slots := 0, locals := 373 }) [.ref k, .int (iI link), .int (iI (tree : Int)), .int (iI (g : Int)), .ref h] [(k, ob 8 [.ref lk, .int (iI s0), .ref lk]), (lk, ob 2 [.ref la_, .ref lb_, .int (iI (nl : Int)), .ref lf_, .ref lt_]), (lf_, ia E 14 lf), (lt_, ia E 14 lt), (h, ob 7 [.ref hb, .ref ha, .ref hc, .int (iI (n : Int)), .int (iI sg)]), (hb, ia E 2002 fb)] (fun v_ w_ => ∃ (n2 : Nat) (fb2 : Nat → Int) (xs2 : List Nat), v_ = none ∧ w_ = [(k, ob 8 [.ref lk, .int (iI s0), .ref lk]), (lk, ob 2 [.ref la_, .ref lb_, .int (iI (nl : Int)), .ref lf_, .ref lt_]), (lf_, ia E 14 lf), (lt_, ia E 14 lt), (h, ob 7 [.ref hb, .ref ha, .ref hc, .int (iI (n2 : Int)), .int (iI sg)]), (hb, ia E 2002 fb2)] ∧ (xs2.length = n2) ∧ (LsA fb2 xs2) ∧ (xs2.Pairwise (· ≤ ·)) ∧ (xs2.Perm (hg lf lt m tree g ++ xs)) ∧ (∀ x_ ∈ xs2, x_ < 16384)) := by
  refine MC.of (by decide +kernel) (Nat.le_of_ble_eq_true rfl) ?_
  intro p_ e_ s_ m_ args_ below_ meth_ c_ A_ C hr hnm
  have C : Cx p_ s_ m_ args_ meth_ c_ E A_ 8 cX9_hang RX9 := C
  have hpc := popc_le tree
  show Wx _ _ _ _ _ _ _ _ _ _ _ _ _ _ _ _ 0 [(0, .ref k), (1, .int (iI link)), (2, .int (iI (tree : Int))), (3, .int (iI (g : Int))), (4, .ref h)] [] [(k, ob 8 [.ref lk, .int (iI s0), .ref lk]), (lk, ob 2 [.ref la_, .ref lb_, .int (iI (nl : Int)), .ref lf_, .ref lt_]), (lf_, ia E 14 lf), (lt_, ia E 14 lt), (h, ob 7 [.ref hb, .ref ha, .ref hc, .int (iI (n : Int)), .int (iI sg)]), (hb, ia E 2002 fb)]
  refine x_iconst (pc' := 1) C dX9_hang_0 rfl ?_
  refine x_iload_n (pc' := 2) C 2 dX9_hang_1 rfl rfl ?_
  refine x_callS (pc' := 5) (As := [.int (iI (tree : Int))]) (rest := [.int (iI 5)]) C cs_X9_26 dX9_hang_2 rfl (c_J6_bitCount_0f7a4 l E tree (show tree < 1000000 from by omega)) mm_J6_bitCount_0f7a4 (hstk := rfl) (hlen := rfl) (hcat := Nat.le_of_ble_eq_true rfl) (isC := []) (isR := [0, 1, 2, 3, 4, 5]) (wr := [(k, ob 8 [.ref lk, .int (iI s0), .ref lk]), (lk, ob 2 [.ref la_, .ref lb_, .int (iI (nl : Int)), .ref lf_, .ref lt_]), (lf_, ia E 14 lf), (lt_, ia E 14 lt), (h, ob 7 [.ref hb, .ref ha, .ref hc, .int (iI (n : Int)), .int (iI sg)]), (hb, ia E 2002 fb)]) (hC := rfl) (hR := rfl) (hnC := rfl) (hn := rfl) (hdis := by decide) (hR1 := ⟨Nat.le_of_ble_eq_true rfl, Nat.le_of_ble_eq_true rfl⟩) (hcs := ⟨Nat.le_of_ble_eq_true rfl, Nat.le_of_ble_eq_true rfl⟩) (fun v_ w_ hp_ => ?_)
  obtain ⟨rfl, rfl⟩ := hp_
  show Wx _ _ _ _ _ _ _ _ _ _ _ _ _ _ _ _ 5 [(0, .ref k), (1, .int (iI link)), (2, .int (iI (tree : Int))), (3, .int (iI (g : Int))), (4, .ref h)] [.int (iI ((popc tree : Nat) : Int)), .int (iI 5)] [(k, ob 8 [.ref lk, .int (iI s0), .ref lk]), (lk, ob 2 [.ref la_, .ref lb_, .int (iI (nl : Int)), .ref lf_, .ref lt_]), (lf_, ia E 14 lf), (lt_, ia E 14 lt), (h, ob 7 [.ref hb, .ref ha, .ref hc, .int (iI (n : Int)), .int (iI sg)]), (hb, ia E 2002 fb)]
  refine x_isub (pc' := 6) C dX9_hang_5 rfl ?_
  refine x_istore (pc' := 8) (lv' := [(5, .int (iI (5 - ((popc tree : Nat) : Int)))), (0, .ref k), (1, .int (iI link)), (2, .int (iI (tree : Int))), (3, .int (iI (g : Int))), (4, .ref h)]) C dX9_hang_6 rfl (by decide) rfl ?_
  refine x_iload (pc' := 10) C 0 dX9_hang_8 rfl rfl ?_
  refine x_if_ne (pc' := 13) (tgt := 20) C dX9_hang_10 rfl (by decide) (by omega) (fun c10 => ?_) (fun c10 => ?_)
  ·
    refine x_iload_n (pc' := 21) C 2 dX9_hang_20 rfl rfl ?_
    refine x_if_lt (pc' := 24) (tgt := 43) C dX9_hang_21 rfl (by decide) (by omega) (fun c21 => ?_) (fun c21 => ?_)
    ·
      exact x_vret C hr dX9_hang_43 ⟨n, fb, xs, rfl, rfl, (show xs.length = n from hlen), (show LsA fb xs from hls), (show xs.Pairwise (· ≤ ·) from hso), (show xs.Perm (hg lf lt m tree g ++ xs) from by rw [hg_0 (by omega) (by omega)]; exact List.Perm.refl _), (show ∀ x_ ∈ xs, x_ < 16384 from hbd)⟩
    ·
      refine x_iload_n (pc' := 25) C 2 dX9_hang_24 rfl rfl ?_
      refine x_aload_n (pc' := 26) C 1 dX9_hang_25 rfl rfl ?_
      refine x_get (pc' := 29) C dX9_hang_26 rfl ff_X9_9_8 0 rfl rfl ?_
      refine x_get (pc' := 32) C dX9_hang_29 rfl ff_X9_15_2 1 rfl rfl ?_
      refine x_icmp_ge (pc' := 35) (tgt := 43) C dX9_hang_32 rfl (by decide) (by omega) (by omega) (fun c32 => ?_) (fun c32 => ?_)
      ·
        exact absurd c32 (by omega)
      ·
        refine x_iload_n (pc' := 36) C 2 dX9_hang_35 rfl rfl ?_
        refine x_iconst (pc' := 37) C dX9_hang_36 rfl ?_
        refine x_iadd (pc' := 38) C dX9_hang_37 rfl ?_
        refine x_iload (pc' := 40) C 0 dX9_hang_38 rfl rfl ?_
        refine x_icmp_ge (pc' := 43) (tgt := 44) C dX9_hang_40 rfl (by decide) (by omega) (by omega) (fun c40 => ?_) (fun c40 => ?_)
        ·
          have hV := hg_s (lf := lf) (lt := lt) (m := m) (tree := tree) (g := g) (by omega) (by omega) (by omega)
          have hf1 := hlf (m - 1) (by omega)
          have ht1 := hlt (m - 1) (by omega)
          have hga := grp_le g (lf (m - 1)).toNat
          have hgb := grp_le g (lt (m - 1)).toNat
          refine x_aload_n (pc' := 45) C 1 dX9_hang_44 rfl rfl ?_
          refine x_iload_n (pc' := 46) C 2 dX9_hang_45 rfl rfl ?_
          refine x_iconst (pc' := 47) C dX9_hang_46 rfl ?_
          refine x_isub (pc' := 48) C dX9_hang_47 rfl ?_
          refine x_iload_n (pc' := 49) C 3 dX9_hang_48 rfl rfl ?_
          refine x_iload_n (pc' := 50) C 4 dX9_hang_49 rfl rfl ?_
          refine x_aload (pc' := 52) C 5 dX9_hang_50 rfl rfl ?_
          refine x_callV (pc' := 55) (As := [.int (iI (link - 1)), .int (iI (tree : Int)), .int (iI (g : Int)), .ref h]) (rest := []) (q0 := 0) C rfl rfl cv_X9_22_X9 dX9_hang_52 rfl (c_X9_hang_12 l E k lk la_ lb_ lf_ lt_ nl s0 lf lt h hb ha hc sg fb n (m - 1) tree g (link - 1) xs (show nl ≤ 14 from by omega) (show ∀ j_ : Nat, j_ < nl → 0 ≤ lf j_ ∧ lf j_ ≤ 5 from hlf) (show ∀ j_ : Nat, j_ < nl → 0 ≤ lt j_ ∧ lt j_ ≤ 5 from hlt) (show (hg lf lt (m - 1) tree g).length + xs.length ≤ 2002 from by rw [hV, List.length_append] at hcap; omega) (show ((link - 1) + 1).toNat = (m - 1) ∧ -1 ≤ (link - 1) from by omega) (show (m - 1) ≤ 12 ∧ (m - 1) ≤ nl from by omega) (show tree < 16384 from htr) (show g < 262144 from hgg) (show xs.length = n from hlen) (show LsA fb xs from hls) (show xs.Pairwise (· ≤ ·) from hso) (show ∀ x_ ∈ xs, x_ < 16384 from hbd)) mm_X9_hang (hstk := rfl) (hlen := rfl) (hcat := Nat.le_of_ble_eq_true rfl) (isC := [0, 1, 2, 3, 4, 5]) (isR := []) (wr := []) (hC := rfl) (hR := rfl) (hnC := rfl) (hn := rfl) (hdis := by decide) (hR1 := ⟨Nat.le_of_ble_eq_true rfl, Nat.le_of_ble_eq_true rfl⟩) (hcs := ⟨Nat.le_of_ble_eq_true rfl, Nat.le_of_ble_eq_true rfl⟩) (fun v_ w_ hp_ => ?_)
          obtain ⟨n2_52, fb2_52, xs2_52, rfl, rfl, g52_l, g52_s, g52_o, g52_p, g52_b⟩ := hp_
          replace g52_l : xs2_52.length = n2_52 := g52_l
          replace g52_s : LsA fb2_52 xs2_52 := g52_s
          replace g52_o : xs2_52.Pairwise (· ≤ ·) := g52_o
          replace g52_p : xs2_52.Perm (hg lf lt (m - 1) tree g ++ xs) := g52_p
          replace g52_b : ∀ x_ ∈ xs2_52, x_ < 16384 := g52_b
          show Wx _ _ _ _ _ _ _ _ _ _ _ _ _ _ _ _ 55 [(5, .int (iI (5 - ((popc tree : Nat) : Int)))), (0, .ref k), (1, .int (iI link)), (2, .int (iI (tree : Int))), (3, .int (iI (g : Int))), (4, .ref h)] [] [(k, ob 8 [.ref lk, .int (iI s0), .ref lk]), (lk, ob 2 [.ref la_, .ref lb_, .int (iI (nl : Int)), .ref lf_, .ref lt_]), (lf_, ia E 14 lf), (lt_, ia E 14 lt), (h, ob 7 [.ref hb, .ref ha, .ref hc, .int (iI (n2_52 : Int)), .int (iI sg)]), (hb, ia E 2002 fb2_52)]
          refine x_iload_n (pc' := 56) C 4 dX9_hang_55 rfl rfl ?_
          refine x_aload_n (pc' := 57) C 1 dX9_hang_56 rfl rfl ?_
          refine x_get (pc' := 60) C dX9_hang_57 rfl ff_X9_9_8 0 rfl rfl ?_
          refine x_get (pc' := 63) C dX9_hang_60 rfl ff_X9_38_2 1 rfl rfl ?_
          refine x_iload_n (pc' := 64) C 2 dX9_hang_63 rfl rfl ?_
          refine x_iald (pc' := 65) C (m - 1) dX9_hang_64 rfl 2 rfl (by omega) (by omega) (by omega) ?_
          refine x_top (b := .int (iI (((lf (m - 1)).toNat : Nat) : Int))) (by congr 2; omega) ?_
          refine x_callS (pc' := 68) (As := [.int (iI (g : Int)), .int (iI (((lf (m - 1)).toNat : Nat) : Int))]) (rest := []) C cs_X9_42 dX9_hang_65 rfl (c_X9_groupOf l E g ((lf (m - 1)).toNat) (show g < 1000000 from by omega) (show ((lf (m - 1)).toNat) ≤ 5 from by omega)) mm_X9_groupOf (hstk := rfl) (hlen := rfl) (hcat := Nat.le_of_ble_eq_true rfl) (isC := []) (isR := [0, 1, 2, 3, 4, 5]) (wr := [(k, ob 8 [.ref lk, .int (iI s0), .ref lk]), (lk, ob 2 [.ref la_, .ref lb_, .int (iI (nl : Int)), .ref lf_, .ref lt_]), (lf_, ia E 14 lf), (lt_, ia E 14 lt), (h, ob 7 [.ref hb, .ref ha, .ref hc, .int (iI (n2_52 : Int)), .int (iI sg)]), (hb, ia E 2002 fb2_52)]) (hC := rfl) (hR := rfl) (hnC := rfl) (hn := rfl) (hdis := by decide) (hR1 := ⟨Nat.le_of_ble_eq_true rfl, Nat.le_of_ble_eq_true rfl⟩) (hcs := ⟨Nat.le_of_ble_eq_true rfl, Nat.le_of_ble_eq_true rfl⟩) (fun v_ w_ hp_ => ?_)
          obtain ⟨rfl, rfl⟩ := hp_
          show Wx _ _ _ _ _ _ _ _ _ _ _ _ _ _ _ _ 68 [(5, .int (iI (5 - ((popc tree : Nat) : Int)))), (0, .ref k), (1, .int (iI link)), (2, .int (iI (tree : Int))), (3, .int (iI (g : Int))), (4, .ref h)] [.int (iI ((grp g ((lf (m - 1)).toNat) : Nat) : Int))] [(k, ob 8 [.ref lk, .int (iI s0), .ref lk]), (lk, ob 2 [.ref la_, .ref lb_, .int (iI (nl : Int)), .ref lf_, .ref lt_]), (lf_, ia E 14 lf), (lt_, ia E 14 lt), (h, ob 7 [.ref hb, .ref ha, .ref hc, .int (iI (n2_52 : Int)), .int (iI sg)]), (hb, ia E 2002 fb2_52)]
          refine x_istore (pc' := 70) (lv' := [(6, .int (iI ((grp g ((lf (m - 1)).toNat) : Nat) : Int))), (5, .int (iI (5 - ((popc tree : Nat) : Int)))), (0, .ref k), (1, .int (iI link)), (2, .int (iI (tree : Int))), (3, .int (iI (g : Int))), (4, .ref h)]) C dX9_hang_68 rfl (by decide) rfl ?_
          refine x_iload_n (pc' := 71) C 5 dX9_hang_70 rfl rfl ?_
          refine x_aload_n (pc' := 72) C 2 dX9_hang_71 rfl rfl ?_
          refine x_get (pc' := 75) C dX9_hang_72 rfl ff_X9_9_8 0 rfl rfl ?_
          refine x_get (pc' := 78) C dX9_hang_75 rfl ff_X9_46_2 1 rfl rfl ?_
          refine x_iload_n (pc' := 79) C 3 dX9_hang_78 rfl rfl ?_
          refine x_iald (pc' := 80) C (m - 1) dX9_hang_79 rfl 3 rfl (by omega) (by omega) (by omega) ?_
          refine x_top (b := .int (iI (((lt (m - 1)).toNat : Nat) : Int))) (by congr 2; omega) ?_
          refine x_callS (pc' := 83) (As := [.int (iI (g : Int)), .int (iI (((lt (m - 1)).toNat : Nat) : Int))]) (rest := []) C cs_X9_42 dX9_hang_80 rfl (c_X9_groupOf l E g ((lt (m - 1)).toNat) (show g < 1000000 from by omega) (show ((lt (m - 1)).toNat) ≤ 5 from by omega)) mm_X9_groupOf (hstk := rfl) (hlen := rfl) (hcat := Nat.le_of_ble_eq_true rfl) (isC := []) (isR := [0, 1, 2, 3, 4, 5]) (wr := [(k, ob 8 [.ref lk, .int (iI s0), .ref lk]), (lk, ob 2 [.ref la_, .ref lb_, .int (iI (nl : Int)), .ref lf_, .ref lt_]), (lf_, ia E 14 lf), (lt_, ia E 14 lt), (h, ob 7 [.ref hb, .ref ha, .ref hc, .int (iI (n2_52 : Int)), .int (iI sg)]), (hb, ia E 2002 fb2_52)]) (hC := rfl) (hR := rfl) (hnC := rfl) (hn := rfl) (hdis := by decide) (hR1 := ⟨Nat.le_of_ble_eq_true rfl, Nat.le_of_ble_eq_true rfl⟩) (hcs := ⟨Nat.le_of_ble_eq_true rfl, Nat.le_of_ble_eq_true rfl⟩) (fun v_ w_ hp_ => ?_)
          obtain ⟨rfl, rfl⟩ := hp_
          show Wx _ _ _ _ _ _ _ _ _ _ _ _ _ _ _ _ 83 [(6, .int (iI ((grp g ((lf (m - 1)).toNat) : Nat) : Int))), (5, .int (iI (5 - ((popc tree : Nat) : Int)))), (0, .ref k), (1, .int (iI link)), (2, .int (iI (tree : Int))), (3, .int (iI (g : Int))), (4, .ref h)] [.int (iI ((grp g ((lt (m - 1)).toNat) : Nat) : Int))] [(k, ob 8 [.ref lk, .int (iI s0), .ref lk]), (lk, ob 2 [.ref la_, .ref lb_, .int (iI (nl : Int)), .ref lf_, .ref lt_]), (lf_, ia E 14 lf), (lt_, ia E 14 lt), (h, ob 7 [.ref hb, .ref ha, .ref hc, .int (iI (n2_52 : Int)), .int (iI sg)]), (hb, ia E 2002 fb2_52)]
          refine x_istore (pc' := 85) (lv' := [(7, .int (iI ((grp g ((lt (m - 1)).toNat) : Nat) : Int))), (6, .int (iI ((grp g ((lf (m - 1)).toNat) : Nat) : Int))), (5, .int (iI (5 - ((popc tree : Nat) : Int)))), (0, .ref k), (1, .int (iI link)), (2, .int (iI (tree : Int))), (3, .int (iI (g : Int))), (4, .ref h)]) C dX9_hang_83 rfl (by decide) rfl ?_
          refine x_iload (pc' := 87) C 1 dX9_hang_85 rfl rfl ?_
          refine x_iload (pc' := 89) C 0 dX9_hang_87 rfl rfl ?_
          refine x_icmp_eq (pc' := 92) (tgt := 114) C dX9_hang_89 rfl (by decide) (by omega) (by omega) (fun c89 => ?_) (fun c89 => ?_)
          ·
            exact x_vret C hr dX9_hang_114 ⟨n2_52, fb2_52, xs2_52, rfl, rfl, (show xs2_52.length = n2_52 from g52_l), (show LsA fb2_52 xs2_52 from g52_s), (show xs2_52.Pairwise (· ≤ ·) from g52_o), (show xs2_52.Perm (hg lf lt m tree g ++ xs) from two_perm (W := []) (by rw [hV, if_pos (by omega)]) g52_p (List.Perm.refl _)), (show ∀ x_ ∈ xs2_52, x_ < 16384 from g52_b)⟩
          ·
            have hV2 := hV
            rw [if_neg (by omega)] at hV2
            refine x_aload_n (pc' := 93) C 3 dX9_hang_92 rfl rfl ?_
            refine x_iload_n (pc' := 94) C 4 dX9_hang_93 rfl rfl ?_
            refine x_iconst (pc' := 95) C dX9_hang_94 rfl ?_
            refine x_isub (pc' := 96) C dX9_hang_95 rfl ?_
            refine x_iload_n (pc' := 97) C 5 dX9_hang_96 rfl rfl ?_
            refine x_iconst (pc' := 98) C dX9_hang_97 rfl ?_
            refine x_iload_n (pc' := 99) C 4 dX9_hang_98 rfl rfl ?_
            refine x_ishl (pc' := 100) (z := (iI ((2 ^ (m - 1) : Nat) : Int))) C dX9_hang_99 rfl (by rw [show link = ((m - 1 : Nat) : Int) by omega]; exact bt_shl (by omega)) ?_
            refine x_ior (pc' := 101) (z := (iI ((tree ||| 2 ^ (m - 1) : Nat) : Int))) C dX9_hang_100 rfl (bt_or _ _) ?_
            refine x_iload_n (pc' := 102) C 6 dX9_hang_101 rfl rfl ?_
            refine x_iload (pc' := 104) C 1 dX9_hang_102 rfl rfl ?_
            refine x_iload (pc' := 106) C 0 dX9_hang_104 rfl rfl ?_
            refine x_callS (pc' := 109) (As := [.int (iI (g : Int)), .int (iI ((grp g ((lf (m - 1)).toNat) : Nat) : Int)), .int (iI ((grp g ((lt (m - 1)).toNat) : Nat) : Int))]) (rest := [.int (iI ((tree ||| 2 ^ (m - 1) : Nat) : Int)), .int (iI (link - 1)), .ref k]) C cs_X9_49 dX9_hang_106 rfl (c_X9_unite l E g (grp g ((lf (m - 1)).toNat)) (grp g ((lt (m - 1)).toNat)) (show g < 262144 from by omega) (show (grp g ((lf (m - 1)).toNat)) ≤ 7 from by omega) (show (grp g ((lt (m - 1)).toNat)) ≤ 7 from by omega)) mm_X9_unite (hstk := rfl) (hlen := rfl) (hcat := Nat.le_of_ble_eq_true rfl) (isC := []) (isR := [0, 1, 2, 3, 4, 5]) (wr := [(k, ob 8 [.ref lk, .int (iI s0), .ref lk]), (lk, ob 2 [.ref la_, .ref lb_, .int (iI (nl : Int)), .ref lf_, .ref lt_]), (lf_, ia E 14 lf), (lt_, ia E 14 lt), (h, ob 7 [.ref hb, .ref ha, .ref hc, .int (iI (n2_52 : Int)), .int (iI sg)]), (hb, ia E 2002 fb2_52)]) (hC := rfl) (hR := rfl) (hnC := rfl) (hn := rfl) (hdis := by decide) (hR1 := ⟨Nat.le_of_ble_eq_true rfl, Nat.le_of_ble_eq_true rfl⟩) (hcs := ⟨Nat.le_of_ble_eq_true rfl, Nat.le_of_ble_eq_true rfl⟩) (fun v_ w_ hp_ => ?_)
            obtain ⟨rfl, rfl⟩ := hp_
            show Wx _ _ _ _ _ _ _ _ _ _ _ _ _ _ _ _ 109 [(7, .int (iI ((grp g ((lt (m - 1)).toNat) : Nat) : Int))), (6, .int (iI ((grp g ((lf (m - 1)).toNat) : Nat) : Int))), (5, .int (iI (5 - ((popc tree : Nat) : Int)))), (0, .ref k), (1, .int (iI link)), (2, .int (iI (tree : Int))), (3, .int (iI (g : Int))), (4, .ref h)] [.int (iI ((unt g (grp g ((lf (m - 1)).toNat)) (grp g ((lt (m - 1)).toNat)) 6 : Nat) : Int)), .int (iI ((tree ||| 2 ^ (m - 1) : Nat) : Int)), .int (iI (link - 1)), .ref k] [(k, ob 8 [.ref lk, .int (iI s0), .ref lk]), (lk, ob 2 [.ref la_, .ref lb_, .int (iI (nl : Int)), .ref lf_, .ref lt_]), (lf_, ia E 14 lf), (lt_, ia E 14 lt), (h, ob 7 [.ref hb, .ref ha, .ref hc, .int (iI (n2_52 : Int)), .int (iI sg)]), (hb, ia E 2002 fb2_52)]
            refine x_aload (pc' := 111) C 7 dX9_hang_109 rfl rfl ?_
            refine x_callV (pc' := 114) (As := [.int (iI (link - 1)), .int (iI ((tree ||| 2 ^ (m - 1) : Nat) : Int)), .int (iI ((unt g (grp g ((lf (m - 1)).toNat)) (grp g ((lt (m - 1)).toNat)) 6 : Nat) : Int)), .ref h]) (rest := []) (q0 := 0) C rfl rfl cv_X9_22_X9 dX9_hang_111 rfl (c_X9_hang_12 l E k lk la_ lb_ lf_ lt_ nl s0 lf lt h hb ha hc sg fb2_52 n2_52 (m - 1) (tree ||| 2 ^ (m - 1)) (unt g (grp g ((lf (m - 1)).toNat)) (grp g ((lt (m - 1)).toNat)) 6) (link - 1) xs2_52 (show nl ≤ 14 from by omega) (show ∀ j_ : Nat, j_ < nl → 0 ≤ lf j_ ∧ lf j_ ≤ 5 from hlf) (show ∀ j_ : Nat, j_ < nl → 0 ≤ lt j_ ∧ lt j_ ≤ 5 from hlt) (show (hg lf lt (m - 1) (tree ||| 2 ^ (m - 1)) (unt g (grp g ((lf (m - 1)).toNat)) (grp g ((lt (m - 1)).toNat)) 6)).length + xs2_52.length ≤ 2002 from by have hq_ := g52_p.length_eq; rw [List.length_append] at hq_; rw [hV2, List.length_append] at hcap; omega) (show ((link - 1) + 1).toNat = (m - 1) ∧ -1 ≤ (link - 1) from by omega) (show (m - 1) ≤ 12 ∧ (m - 1) ≤ nl from by omega) (show (tree ||| 2 ^ (m - 1)) < 16384 from or_bd (N := 14) htr (by omega)) (show (unt g (grp g ((lf (m - 1)).toNat)) (grp g ((lt (m - 1)).toNat)) 6) < 262144 from unt_bd (g := g) hgg (grp_le _ _) (grp_le _ _) 6 (by decide)) (show xs2_52.length = n2_52 from g52_l) (show LsA fb2_52 xs2_52 from g52_s) (show xs2_52.Pairwise (· ≤ ·) from g52_o) (show ∀ x_ ∈ xs2_52, x_ < 16384 from g52_b)) mm_X9_hang (hstk := rfl) (hlen := rfl) (hcat := Nat.le_of_ble_eq_true rfl) (isC := [0, 1, 2, 3, 4, 5]) (isR := []) (wr := []) (hC := rfl) (hR := rfl) (hnC := rfl) (hn := rfl) (hdis := by decide) (hR1 := ⟨Nat.le_of_ble_eq_true rfl, Nat.le_of_ble_eq_true rfl⟩) (hcs := ⟨Nat.le_of_ble_eq_true rfl, Nat.le_of_ble_eq_true rfl⟩) (fun v_ w_ hp_ => ?_)
            obtain ⟨n2_111, fb2_111, xs2_111, rfl, rfl, g111_l, g111_s, g111_o, g111_p, g111_b⟩ := hp_
            replace g111_l : xs2_111.length = n2_111 := g111_l
            replace g111_s : LsA fb2_111 xs2_111 := g111_s
            replace g111_o : xs2_111.Pairwise (· ≤ ·) := g111_o
            replace g111_p : xs2_111.Perm (hg lf lt (m - 1) (tree ||| 2 ^ (m - 1)) (unt g (grp g ((lf (m - 1)).toNat)) (grp g ((lt (m - 1)).toNat)) 6) ++ xs2_52) := g111_p
            replace g111_b : ∀ x_ ∈ xs2_111, x_ < 16384 := g111_b
            show Wx _ _ _ _ _ _ _ _ _ _ _ _ _ _ _ _ 114 [(7, .int (iI ((grp g ((lt (m - 1)).toNat) : Nat) : Int))), (6, .int (iI ((grp g ((lf (m - 1)).toNat) : Nat) : Int))), (5, .int (iI (5 - ((popc tree : Nat) : Int)))), (0, .ref k), (1, .int (iI link)), (2, .int (iI (tree : Int))), (3, .int (iI (g : Int))), (4, .ref h)] [] [(k, ob 8 [.ref lk, .int (iI s0), .ref lk]), (lk, ob 2 [.ref la_, .ref lb_, .int (iI (nl : Int)), .ref lf_, .ref lt_]), (lf_, ia E 14 lf), (lt_, ia E 14 lt), (h, ob 7 [.ref hb, .ref ha, .ref hc, .int (iI (n2_111 : Int)), .int (iI sg)]), (hb, ia E 2002 fb2_111)]
            exact x_vret C hr dX9_hang_114 ⟨n2_111, fb2_111, xs2_111, rfl, rfl, (show xs2_111.length = n2_111 from g111_l), (show LsA fb2_111 xs2_111 from g111_s), (show xs2_111.Pairwise (· ≤ ·) from g111_o), (show xs2_111.Perm (hg lf lt m tree g ++ xs) from two_perm hV2 g52_p g111_p), (show ∀ x_ ∈ xs2_111, x_ < 16384 from g111_b)⟩
        ·
          exact x_vret C hr dX9_hang_43 ⟨n, fb, xs, rfl, rfl, (show xs.length = n from hlen), (show LsA fb xs from hls), (show xs.Pairwise (· ≤ ·) from hso), (show xs.Perm (hg lf lt m tree g ++ xs) from by rw [hg_0 (by omega) (by omega)]; exact List.Perm.refl _), (show ∀ x_ ∈ xs, x_ < 16384 from hbd)⟩
  ·
    refine x_aload (pc' := 15) C 5 dX9_hang_13 rfl rfl ?_
    refine x_iload_n (pc' := 16) C 3 dX9_hang_15 rfl rfl ?_
    refine x_callV (pc' := 19) (As := [.int (iI (tree : Int))]) (rest := []) (q0 := 0) C rfl rfl cv_X9_32_X8 dX9_hang_16 rfl (c_X8_insert l E h hb ha hc n tree sg fb xs (show n < 2002 from by rw [hg_5 (show popc tree = 5 by omega), List.length_singleton] at hcap; omega) (show tree < 1000000 from by omega) (show xs.length = n from hlen) (show LsA fb xs from hls) (show xs.Pairwise (· ≤ ·) from hso) (show ∀ j (h : j < xs.length), xs[j] < 1000000 from get_bd (fun x_ hx_ => Nat.lt_trans (hbd x_ hx_) (by decide)))) mm_X8_insert (hstk := rfl) (hlen := rfl) (hcat := Nat.le_of_ble_eq_true rfl) (isC := [4, 5]) (isR := [0, 1, 2, 3]) (wr := [(k, ob 8 [.ref lk, .int (iI s0), .ref lk]), (lk, ob 2 [.ref la_, .ref lb_, .int (iI (nl : Int)), .ref lf_, .ref lt_]), (lf_, ia E 14 lf), (lt_, ia E 14 lt)]) (hC := rfl) (hR := rfl) (hnC := rfl) (hn := rfl) (hdis := by decide) (hR1 := ⟨Nat.le_of_ble_eq_true rfl, Nat.le_of_ble_eq_true rfl⟩) (hcs := ⟨Nat.le_of_ble_eq_true rfl, Nat.le_of_ble_eq_true rfl⟩) (fun v_ w_ hp_ => ?_)
    obtain ⟨fb2_16, xs2_16, rfl, rfl, g16_l, g16_s, g16_o, g16_p⟩ := hp_
    replace g16_l : xs2_16.length = n + 1 := g16_l
    replace g16_s : LsA fb2_16 xs2_16 := g16_s
    replace g16_o : xs2_16.Pairwise (· ≤ ·) := g16_o
    replace g16_p : xs2_16.Perm (tree :: xs) := g16_p
    show Wx _ _ _ _ _ _ _ _ _ _ _ _ _ _ _ _ 19 [(5, .int (iI (5 - ((popc tree : Nat) : Int)))), (0, .ref k), (1, .int (iI link)), (2, .int (iI (tree : Int))), (3, .int (iI (g : Int))), (4, .ref h)] [] [(k, ob 8 [.ref lk, .int (iI s0), .ref lk]), (lk, ob 2 [.ref la_, .ref lb_, .int (iI (nl : Int)), .ref lf_, .ref lt_]), (lf_, ia E 14 lf), (lt_, ia E 14 lt), (h, ob 7 [.ref hb, .ref ha, .ref hc, .int (iI ((n + 1 : Nat) : Int)), .int (iI sg)]), (hb, ia E 2002 fb2_16)]
    exact x_vret C hr dX9_hang_19 ⟨(n + 1), fb2_16, xs2_16, rfl, rfl, (show xs2_16.length = (n + 1) from g16_l), (show LsA fb2_16 xs2_16 from g16_s), (show xs2_16.Pairwise (· ≤ ·) from g16_o), (show xs2_16.Perm (hg lf lt m tree g ++ xs) from by rw [hg_5 (show popc tree = 5 by omega)]; exact g16_p), (show ∀ x_ ∈ xs2_16, x_ < 16384 from mem_bd (L := [tree]) g16_p (one_bd htr) hbd)⟩

set_option maxHeartbeats 4000000 in
set_option maxRecDepth 100000 in
theorem c_X9_hang_14 (l : Launch) (E : EV) (k : Nat) (lk : Nat) (la_ : Nat) (lb_ : Nat) (lf_ : Nat) (lt_ : Nat) (nl : Nat) (s0 : Int) (lf : Nat → Int) (lt : Nat → Int) (h : Nat) (hb : Nat) (ha : Nat) (hc : Nat) (sg : Int) (fb : Nat → Int) (n : Nat) (m : Nat) (tree : Nat) (g : Nat) (link : Int) (xs : List Nat) (hnl : nl ≤ 14) (hlf : ∀ j_ : Nat, j_ < nl → 0 ≤ lf j_ ∧ lf j_ ≤ 5) (hlt : ∀ j_ : Nat, j_ < nl → 0 ≤ lt j_ ∧ lt j_ ≤ 5) (hcap : (hg lf lt m tree g).length + xs.length ≤ 2002) (hm : (link + 1).toNat = m ∧ -1 ≤ link) (hmL : m ≤ 14 ∧ m ≤ nl) (htr : tree < 16384) (hgg : g < 262144) (hlen : xs.length = n) (hls : LsA fb xs) (hso : xs.Pairwise (· ≤ ·)) (hbd : ∀ x_ ∈ xs, x_ < 16384) : MC l E yX9_hang cX9_hang 8 (none) ({ frames := 15, cells := 0, slots := 0, locals := 400 }) [.ref k, .int (iI link), .int (iI (tree : Int)), .int (iI (g : Int)), .ref h] [(k, ob 8 [.ref lk, .int (iI s0), .ref lk]), (lk, ob 2 [.ref la_, .ref lb_, .int (iI (nl : Int)), .ref lf_, .ref lt_]), (lf_, ia E 14 lf), (lt_, ia E 14 lt), (h, ob 7 [.ref hb, .ref ha, .ref hc, .int (iI (n : Int)), .int (iI sg)]), (hb, ia E 2002 fb)] (fun v_ w_ => ∃ (n2 : Nat) (fb2 : Nat → Int) (xs2 : List Nat), v_ = none ∧ w_ = [(k, ob 8 [.ref lk, .int (iI s0), .ref lk]), (lk, ob 2 [.ref la_, .ref lb_, .int (iI (nl : Int)), .ref lf_, .ref lt_]), (lf_, ia E 14 lf), (lt_, ia E 14 lt), (h, ob 7 [.ref hb, .ref ha, .ref hc, .int (iI (n2 : Int)), .int (iI sg)]), (hb, ia E 2002 fb2)] ∧ (xs2.length = n2) ∧ (LsA fb2 xs2) ∧ (xs2.Pairwise (· ≤ ·)) ∧ (xs2.Perm (hg lf lt m tree g ++ xs)) ∧ (∀ x_ ∈ xs2, x_ < 16384)) := by
  refine MC.of (by decide +kernel) (Nat.le_of_ble_eq_true rfl) ?_
  intro p_ e_ s_ m_ args_ below_ meth_ c_ A_ C hr hnm
  have C : Cx p_ s_ m_ args_ meth_ c_ E A_ 8 cX9_hang RX9 := C
  have hpc := popc_le tree
  show Wx _ _ _ _ _ _ _ _ _ _ _ _ _ _ _ _ 0 [(0, .ref k), (1, .int (iI link)), (2, .int (iI (tree : Int))), (3, .int (iI (g : Int))), (4, .ref h)] [] [(k, ob 8 [.ref lk, .int (iI s0), .ref lk]), (lk, ob 2 [.ref la_, .ref lb_, .int (iI (nl : Int)), .ref lf_, .ref lt_]), (lf_, ia E 14 lf), (lt_, ia E 14 lt), (h, ob 7 [.ref hb, .ref ha, .ref hc, .int (iI (n : Int)), .int (iI sg)]), (hb, ia E 2002 fb)]
  refine x_iconst (pc' := 1) C dX9_hang_0 rfl ?_
  refine x_iload_n (pc' := 2) C 2 dX9_hang_1 rfl rfl ?_
  refine x_callS (pc' := 5) (As := [.int (iI (tree : Int))]) (rest := [.int (iI 5)]) C cs_X9_26 dX9_hang_2 rfl (c_J6_bitCount_0f7a4 l E tree (show tree < 1000000 from by omega)) mm_J6_bitCount_0f7a4 (hstk := rfl) (hlen := rfl) (hcat := Nat.le_of_ble_eq_true rfl) (isC := []) (isR := [0, 1, 2, 3, 4, 5]) (wr := [(k, ob 8 [.ref lk, .int (iI s0), .ref lk]), (lk, ob 2 [.ref la_, .ref lb_, .int (iI (nl : Int)), .ref lf_, .ref lt_]), (lf_, ia E 14 lf), (lt_, ia E 14 lt), (h, ob 7 [.ref hb, .ref ha, .ref hc, .int (iI (n : Int)), .int (iI sg)]), (hb, ia E 2002 fb)]) (hC := rfl) (hR := rfl) (hnC := rfl) (hn := rfl) (hdis := by decide) (hR1 := ⟨Nat.le_of_ble_eq_true rfl, Nat.le_of_ble_eq_true rfl⟩) (hcs := ⟨Nat.le_of_ble_eq_true rfl, Nat.le_of_ble_eq_true rfl⟩) (fun v_ w_ hp_ => ?_)
  obtain ⟨rfl, rfl⟩ := hp_
  show Wx _ _ _ _ _ _ _ _ _ _ _ _ _ _ _ _ 5 [(0, .ref k), (1, .int (iI link)), (2, .int (iI (tree : Int))), (3, .int (iI (g : Int))), (4, .ref h)] [.int (iI ((popc tree : Nat) : Int)), .int (iI 5)] [(k, ob 8 [.ref lk, .int (iI s0), .ref lk]), (lk, ob 2 [.ref la_, .ref lb_, .int (iI (nl : Int)), .ref lf_, .ref lt_]), (lf_, ia E 14 lf), (lt_, ia E 14 lt), (h, ob 7 [.ref hb, .ref ha, .ref hc, .int (iI (n : Int)), .int (iI sg)]), (hb, ia E 2002 fb)]
  refine x_isub (pc' := 6) C dX9_hang_5 rfl ?_
  refine x_istore (pc' := 8) (lv' := [(5, .int (iI (5 - ((popc tree : Nat) : Int)))), (0, .ref k), (1, .int (iI link)), (2, .int (iI (tree : Int))), (3, .int (iI (g : Int))), (4, .ref h)]) C dX9_hang_6 rfl (by decide) rfl ?_
  refine x_iload (pc' := 10) C 0 dX9_hang_8 rfl rfl ?_
  refine x_if_ne (pc' := 13) (tgt := 20) C dX9_hang_10 rfl (by decide) (by omega) (fun c10 => ?_) (fun c10 => ?_)
  ·
    refine x_iload_n (pc' := 21) C 2 dX9_hang_20 rfl rfl ?_
    refine x_if_lt (pc' := 24) (tgt := 43) C dX9_hang_21 rfl (by decide) (by omega) (fun c21 => ?_) (fun c21 => ?_)
    ·
      exact x_vret C hr dX9_hang_43 ⟨n, fb, xs, rfl, rfl, (show xs.length = n from hlen), (show LsA fb xs from hls), (show xs.Pairwise (· ≤ ·) from hso), (show xs.Perm (hg lf lt m tree g ++ xs) from by rw [hg_0 (by omega) (by omega)]; exact List.Perm.refl _), (show ∀ x_ ∈ xs, x_ < 16384 from hbd)⟩
    ·
      refine x_iload_n (pc' := 25) C 2 dX9_hang_24 rfl rfl ?_
      refine x_aload_n (pc' := 26) C 1 dX9_hang_25 rfl rfl ?_
      refine x_get (pc' := 29) C dX9_hang_26 rfl ff_X9_9_8 0 rfl rfl ?_
      refine x_get (pc' := 32) C dX9_hang_29 rfl ff_X9_15_2 1 rfl rfl ?_
      refine x_icmp_ge (pc' := 35) (tgt := 43) C dX9_hang_32 rfl (by decide) (by omega) (by omega) (fun c32 => ?_) (fun c32 => ?_)
      ·
        exact absurd c32 (by omega)
      ·
        refine x_iload_n (pc' := 36) C 2 dX9_hang_35 rfl rfl ?_
        refine x_iconst (pc' := 37) C dX9_hang_36 rfl ?_
        refine x_iadd (pc' := 38) C dX9_hang_37 rfl ?_
        refine x_iload (pc' := 40) C 0 dX9_hang_38 rfl rfl ?_
        refine x_icmp_ge (pc' := 43) (tgt := 44) C dX9_hang_40 rfl (by decide) (by omega) (by omega) (fun c40 => ?_) (fun c40 => ?_)
        ·
          have hV := hg_s (lf := lf) (lt := lt) (m := m) (tree := tree) (g := g) (by omega) (by omega) (by omega)
          have hf1 := hlf (m - 1) (by omega)
          have ht1 := hlt (m - 1) (by omega)
          have hga := grp_le g (lf (m - 1)).toNat
          have hgb := grp_le g (lt (m - 1)).toNat
          refine x_aload_n (pc' := 45) C 1 dX9_hang_44 rfl rfl ?_
          refine x_iload_n (pc' := 46) C 2 dX9_hang_45 rfl rfl ?_
          refine x_iconst (pc' := 47) C dX9_hang_46 rfl ?_
          refine x_isub (pc' := 48) C dX9_hang_47 rfl ?_
          refine x_iload_n (pc' := 49) C 3 dX9_hang_48 rfl rfl ?_
          refine x_iload_n (pc' := 50) C 4 dX9_hang_49 rfl rfl ?_
          refine x_aload (pc' := 52) C 5 dX9_hang_50 rfl rfl ?_
          refine x_callV (pc' := 55) (As := [.int (iI (link - 1)), .int (iI (tree : Int)), .int (iI (g : Int)), .ref h]) (rest := []) (q0 := 0) C rfl rfl cv_X9_22_X9 dX9_hang_52 rfl (c_X9_hang_13 l E k lk la_ lb_ lf_ lt_ nl s0 lf lt h hb ha hc sg fb n (m - 1) tree g (link - 1) xs (show nl ≤ 14 from by omega) (show ∀ j_ : Nat, j_ < nl → 0 ≤ lf j_ ∧ lf j_ ≤ 5 from hlf) (show ∀ j_ : Nat, j_ < nl → 0 ≤ lt j_ ∧ lt j_ ≤ 5 from hlt) (show (hg lf lt (m - 1) tree g).length + xs.length ≤ 2002 from by rw [hV, List.length_append] at hcap; omega) (show ((link - 1) + 1).toNat = (m - 1) ∧ -1 ≤ (link - 1) from by omega) (show (m - 1) ≤ 13 ∧ (m - 1) ≤ nl from by omega) (show tree < 16384 from htr) (show g < 262144 from hgg) (show xs.length = n from hlen) (show LsA fb xs from hls) (show xs.Pairwise (· ≤ ·) from hso) (show ∀ x_ ∈ xs, x_ < 16384 from hbd)) mm_X9_hang (hstk := rfl) (hlen := rfl) (hcat := Nat.le_of_ble_eq_true rfl) (isC := [0, 1, 2, 3, 4, 5]) (isR := []) (wr := []) (hC := rfl) (hR := rfl) (hnC := rfl) (hn := rfl) (hdis := by decide) (hR1 := ⟨Nat.le_of_ble_eq_true rfl, Nat.le_of_ble_eq_true rfl⟩) (hcs := ⟨Nat.le_of_ble_eq_true rfl, Nat.le_of_ble_eq_true rfl⟩) (fun v_ w_ hp_ => ?_)
          obtain ⟨n2_52, fb2_52, xs2_52, rfl, rfl, g52_l, g52_s, g52_o, g52_p, g52_b⟩ := hp_
          replace g52_l : xs2_52.length = n2_52 := g52_l
          replace g52_s : LsA fb2_52 xs2_52 := g52_s
          replace g52_o : xs2_52.Pairwise (· ≤ ·) := g52_o
          replace g52_p : xs2_52.Perm (hg lf lt (m - 1) tree g ++ xs) := g52_p
          replace g52_b : ∀ x_ ∈ xs2_52, x_ < 16384 := g52_b
          show Wx _ _ _ _ _ _ _ _ _ _ _ _ _ _ _ _ 55 [(5, .int (iI (5 - ((popc tree : Nat) : Int)))), (0, .ref k), (1, .int (iI link)), (2, .int (iI (tree : Int))), (3, .int (iI (g : Int))), (4, .ref h)] [] [(k, ob 8 [.ref lk, .int (iI s0), .ref lk]), (lk, ob 2 [.ref la_, .ref lb_, .int (iI (nl : Int)), .ref lf_, .ref lt_]), (lf_, ia E 14 lf), (lt_, ia E 14 lt), (h, ob 7 [.ref hb, .ref ha, .ref hc, .int (iI (n2_52 : Int)), .int (iI sg)]), (hb, ia E 2002 fb2_52)]
          refine x_iload_n (pc' := 56) C 4 dX9_hang_55 rfl rfl ?_
          refine x_aload_n (pc' := 57) C 1 dX9_hang_56 rfl rfl ?_
          refine x_get (pc' := 60) C dX9_hang_57 rfl ff_X9_9_8 0 rfl rfl ?_
          refine x_get (pc' := 63) C dX9_hang_60 rfl ff_X9_38_2 1 rfl rfl ?_
          refine x_iload_n (pc' := 64) C 2 dX9_hang_63 rfl rfl ?_
          refine x_iald (pc' := 65) C (m - 1) dX9_hang_64 rfl 2 rfl (by omega) (by omega) (by omega) ?_
          refine x_top (b := .int (iI (((lf (m - 1)).toNat : Nat) : Int))) (by congr 2; omega) ?_
          refine x_callS (pc' := 68) (As := [.int (iI (g : Int)), .int (iI (((lf (m - 1)).toNat : Nat) : Int))]) (rest := []) C cs_X9_42 dX9_hang_65 rfl (c_X9_groupOf l E g ((lf (m - 1)).toNat) (show g < 1000000 from by omega) (show ((lf (m - 1)).toNat) ≤ 5 from by omega)) mm_X9_groupOf (hstk := rfl) (hlen := rfl) (hcat := Nat.le_of_ble_eq_true rfl) (isC := []) (isR := [0, 1, 2, 3, 4, 5]) (wr := [(k, ob 8 [.ref lk, .int (iI s0), .ref lk]), (lk, ob 2 [.ref la_, .ref lb_, .int (iI (nl : Int)), .ref lf_, .ref lt_]), (lf_, ia E 14 lf), (lt_, ia E 14 lt), (h, ob 7 [.ref hb, .ref ha, .ref hc, .int (iI (n2_52 : Int)), .int (iI sg)]), (hb, ia E 2002 fb2_52)]) (hC := rfl) (hR := rfl) (hnC := rfl) (hn := rfl) (hdis := by decide) (hR1 := ⟨Nat.le_of_ble_eq_true rfl, Nat.le_of_ble_eq_true rfl⟩) (hcs := ⟨Nat.le_of_ble_eq_true rfl, Nat.le_of_ble_eq_true rfl⟩) (fun v_ w_ hp_ => ?_)
          obtain ⟨rfl, rfl⟩ := hp_
          show Wx _ _ _ _ _ _ _ _ _ _ _ _ _ _ _ _ 68 [(5, .int (iI (5 - ((popc tree : Nat) : Int)))), (0, .ref k), (1, .int (iI link)), (2, .int (iI (tree : Int))), (3, .int (iI (g : Int))), (4, .ref h)] [.int (iI ((grp g ((lf (m - 1)).toNat) : Nat) : Int))] [(k, ob 8 [.ref lk, .int (iI s0), .ref lk]), (lk, ob 2 [.ref la_, .ref lb_, .int (iI (nl : Int)), .ref lf_, .ref lt_]), (lf_, ia E 14 lf), (lt_, ia E 14 lt), (h, ob 7 [.ref hb, .ref ha, .ref hc, .int (iI (n2_52 : Int)), .int (iI sg)]), (hb, ia E 2002 fb2_52)]
          refine x_istore (pc' := 70) (lv' := [(6, .int (iI ((grp g ((lf (m - 1)).toNat) : Nat) : Int))), (5, .int (iI (5 - ((popc tree : Nat) : Int)))), (0, .ref k), (1, .int (iI link)), (2, .int (iI (tree : Int))), (3, .int (iI (g : Int))), (4, .ref h)]) C dX9_hang_68 rfl (by decide) rfl ?_
          refine x_iload_n (pc' := 71) C 5 dX9_hang_70 rfl rfl ?_
          refine x_aload_n (pc' := 72) C 2 dX9_hang_71 rfl rfl ?_
          refine x_get (pc' := 75) C dX9_hang_72 rfl ff_X9_9_8 0 rfl rfl ?_
          refine x_get (pc' := 78) C dX9_hang_75 rfl ff_X9_46_2 1 rfl rfl ?_
          refine x_iload_n (pc' := 79) C 3 dX9_hang_78 rfl rfl ?_
          refine x_iald (pc' := 80) C (m - 1) dX9_hang_79 rfl 3 rfl (by omega) (by omega) (by omega) ?_
          refine x_top (b := .int (iI (((lt (m - 1)).toNat : Nat) : Int))) (by congr 2; omega) ?_
          refine x_callS (pc' := 83) (As := [.int (iI (g : Int)), .int (iI (((lt (m - 1)).toNat : Nat) : Int))]) (rest := []) C cs_X9_42 dX9_hang_80 rfl (c_X9_groupOf l E g ((lt (m - 1)).toNat) (show g < 1000000 from by omega) (show ((lt (m - 1)).toNat) ≤ 5 from by omega)) mm_X9_groupOf (hstk := rfl) (hlen := rfl) (hcat := Nat.le_of_ble_eq_true rfl) (isC := []) (isR := [0, 1, 2, 3, 4, 5]) (wr := [(k, ob 8 [.ref lk, .int (iI s0), .ref lk]), (lk, ob 2 [.ref la_, .ref lb_, .int (iI (nl : Int)), .ref lf_, .ref lt_]), (lf_, ia E 14 lf), (lt_, ia E 14 lt), (h, ob 7 [.ref hb, .ref ha, .ref hc, .int (iI (n2_52 : Int)), .int (iI sg)]), (hb, ia E 2002 fb2_52)]) (hC := rfl) (hR := rfl) (hnC := rfl) (hn := rfl) (hdis := by decide) (hR1 := ⟨Nat.le_of_ble_eq_true rfl, Nat.le_of_ble_eq_true rfl⟩) (hcs := ⟨Nat.le_of_ble_eq_true rfl, Nat.le_of_ble_eq_true rfl⟩) (fun v_ w_ hp_ => ?_)
          obtain ⟨rfl, rfl⟩ := hp_
          show Wx _ _ _ _ _ _ _ _ _ _ _ _ _ _ _ _ 83 [(6, .int (iI ((grp g ((lf (m - 1)).toNat) : Nat) : Int))), (5, .int (iI (5 - ((popc tree : Nat) : Int)))), (0, .ref k), (1, .int (iI link)), (2, .int (iI (tree : Int))), (3, .int (iI (g : Int))), (4, .ref h)] [.int (iI ((grp g ((lt (m - 1)).toNat) : Nat) : Int))] [(k, ob 8 [.ref lk, .int (iI s0), .ref lk]), (lk, ob 2 [.ref la_, .ref lb_, .int (iI (nl : Int)), .ref lf_, .ref lt_]), (lf_, ia E 14 lf), (lt_, ia E 14 lt), (h, ob 7 [.ref hb, .ref ha, .ref hc, .int (iI (n2_52 : Int)), .int (iI sg)]), (hb, ia E 2002 fb2_52)]
          refine x_istore (pc' := 85) (lv' := [(7, .int (iI ((grp g ((lt (m - 1)).toNat) : Nat) : Int))), (6, .int (iI ((grp g ((lf (m - 1)).toNat) : Nat) : Int))), (5, .int (iI (5 - ((popc tree : Nat) : Int)))), (0, .ref k), (1, .int (iI link)), (2, .int (iI (tree : Int))), (3, .int (iI (g : Int))), (4, .ref h)]) C dX9_hang_83 rfl (by decide) rfl ?_
          refine x_iload (pc' := 87) C 1 dX9_hang_85 rfl rfl ?_
          refine x_iload (pc' := 89) C 0 dX9_hang_87 rfl rfl ?_
          refine x_icmp_eq (pc' := 92) (tgt := 114) C dX9_hang_89 rfl (by decide) (by omega) (by omega) (fun c89 => ?_) (fun c89 => ?_)
          ·
            exact x_vret C hr dX9_hang_114 ⟨n2_52, fb2_52, xs2_52, rfl, rfl, (show xs2_52.length = n2_52 from g52_l), (show LsA fb2_52 xs2_52 from g52_s), (show xs2_52.Pairwise (· ≤ ·) from g52_o), (show xs2_52.Perm (hg lf lt m tree g ++ xs) from two_perm (W := []) (by rw [hV, if_pos (by omega)]) g52_p (List.Perm.refl _)), (show ∀ x_ ∈ xs2_52, x_ < 16384 from g52_b)⟩
          ·
            have hV2 := hV
            rw [if_neg (by omega)] at hV2
            refine x_aload_n (pc' := 93) C 3 dX9_hang_92 rfl rfl ?_
            refine x_iload_n (pc' := 94) C 4 dX9_hang_93 rfl rfl ?_
            refine x_iconst (pc' := 95) C dX9_hang_94 rfl ?_
            refine x_isub (pc' := 96) C dX9_hang_95 rfl ?_
            refine x_iload_n (pc' := 97) C 5 dX9_hang_96 rfl rfl ?_
            refine x_iconst (pc' := 98) C dX9_hang_97 rfl ?_
            refine x_iload_n (pc' := 99) C 4 dX9_hang_98 rfl rfl ?_
            refine x_ishl (pc' := 100) (z := (iI ((2 ^ (m - 1) : Nat) : Int))) C dX9_hang_99 rfl (by rw [show link = ((m - 1 : Nat) : Int) by omega]; exact bt_shl (by omega)) ?_
            refine x_ior (pc' := 101) (z := (iI ((tree ||| 2 ^ (m - 1) : Nat) : Int))) C dX9_hang_100 rfl (bt_or _ _) ?_
            refine x_iload_n (pc' := 102) C 6 dX9_hang_101 rfl rfl ?_
            refine x_iload (pc' := 104) C 1 dX9_hang_102 rfl rfl ?_
            refine x_iload (pc' := 106) C 0 dX9_hang_104 rfl rfl ?_
            refine x_callS (pc' := 109) (As := [.int (iI (g : Int)), .int (iI ((grp g ((lf (m - 1)).toNat) : Nat) : Int)), .int (iI ((grp g ((lt (m - 1)).toNat) : Nat) : Int))]) (rest := [.int (iI ((tree ||| 2 ^ (m - 1) : Nat) : Int)), .int (iI (link - 1)), .ref k]) C cs_X9_49 dX9_hang_106 rfl (c_X9_unite l E g (grp g ((lf (m - 1)).toNat)) (grp g ((lt (m - 1)).toNat)) (show g < 262144 from by omega) (show (grp g ((lf (m - 1)).toNat)) ≤ 7 from by omega) (show (grp g ((lt (m - 1)).toNat)) ≤ 7 from by omega)) mm_X9_unite (hstk := rfl) (hlen := rfl) (hcat := Nat.le_of_ble_eq_true rfl) (isC := []) (isR := [0, 1, 2, 3, 4, 5]) (wr := [(k, ob 8 [.ref lk, .int (iI s0), .ref lk]), (lk, ob 2 [.ref la_, .ref lb_, .int (iI (nl : Int)), .ref lf_, .ref lt_]), (lf_, ia E 14 lf), (lt_, ia E 14 lt), (h, ob 7 [.ref hb, .ref ha, .ref hc, .int (iI (n2_52 : Int)), .int (iI sg)]), (hb, ia E 2002 fb2_52)]) (hC := rfl) (hR := rfl) (hnC := rfl) (hn := rfl) (hdis := by decide) (hR1 := ⟨Nat.le_of_ble_eq_true rfl, Nat.le_of_ble_eq_true rfl⟩) (hcs := ⟨Nat.le_of_ble_eq_true rfl, Nat.le_of_ble_eq_true rfl⟩) (fun v_ w_ hp_ => ?_)
            obtain ⟨rfl, rfl⟩ := hp_
            show Wx _ _ _ _ _ _ _ _ _ _ _ _ _ _ _ _ 109 [(7, .int (iI ((grp g ((lt (m - 1)).toNat) : Nat) : Int))), (6, .int (iI ((grp g ((lf (m - 1)).toNat) : Nat) : Int))), (5, .int (iI (5 - ((popc tree : Nat) : Int)))), (0, .ref k), (1, .int (iI link)), (2, .int (iI (tree : Int))), (3, .int (iI (g : Int))), (4, .ref h)] [.int (iI ((unt g (grp g ((lf (m - 1)).toNat)) (grp g ((lt (m - 1)).toNat)) 6 : Nat) : Int)), .int (iI ((tree ||| 2 ^ (m - 1) : Nat) : Int)), .int (iI (link - 1)), .ref k] [(k, ob 8 [.ref lk, .int (iI s0), .ref lk]), (lk, ob 2 [.ref la_, .ref lb_, .int (iI (nl : Int)), .ref lf_, .ref lt_]), (lf_, ia E 14 lf), (lt_, ia E 14 lt), (h, ob 7 [.ref hb, .ref ha, .ref hc, .int (iI (n2_52 : Int)), .int (iI sg)]), (hb, ia E 2002 fb2_52)]
            refine x_aload (pc' := 111) C 7 dX9_hang_109 rfl rfl ?_
            refine x_callV (pc' := 114) (As := [.int (iI (link - 1)), .int (iI ((tree ||| 2 ^ (m - 1) : Nat) : Int)), .int (iI ((unt g (grp g ((lf (m - 1)).toNat)) (grp g ((lt (m - 1)).toNat)) 6 : Nat) : Int)), .ref h]) (rest := []) (q0 := 0) C rfl rfl cv_X9_22_X9 dX9_hang_111 rfl (c_X9_hang_13 l E k lk la_ lb_ lf_ lt_ nl s0 lf lt h hb ha hc sg fb2_52 n2_52 (m - 1) (tree ||| 2 ^ (m - 1)) (unt g (grp g ((lf (m - 1)).toNat)) (grp g ((lt (m - 1)).toNat)) 6) (link - 1) xs2_52 (show nl ≤ 14 from by omega) (show ∀ j_ : Nat, j_ < nl → 0 ≤ lf j_ ∧ lf j_ ≤ 5 from hlf) (show ∀ j_ : Nat, j_ < nl → 0 ≤ lt j_ ∧ lt j_ ≤ 5 from hlt) (show (hg lf lt (m - 1) (tree ||| 2 ^ (m - 1)) (unt g (grp g ((lf (m - 1)).toNat)) (grp g ((lt (m - 1)).toNat)) 6)).length + xs2_52.length ≤ 2002 from by have hq_ := g52_p.length_eq; rw [List.length_append] at hq_; rw [hV2, List.length_append] at hcap; omega) (show ((link - 1) + 1).toNat = (m - 1) ∧ -1 ≤ (link - 1) from by omega) (show (m - 1) ≤ 13 ∧ (m - 1) ≤ nl from by omega) (show (tree ||| 2 ^ (m - 1)) < 16384 from or_bd (N := 14) htr (by omega)) (show (unt g (grp g ((lf (m - 1)).toNat)) (grp g ((lt (m - 1)).toNat)) 6) < 262144 from unt_bd (g := g) hgg (grp_le _ _) (grp_le _ _) 6 (by decide)) (show xs2_52.length = n2_52 from g52_l) (show LsA fb2_52 xs2_52 from g52_s) (show xs2_52.Pairwise (· ≤ ·) from g52_o) (show ∀ x_ ∈ xs2_52, x_ < 16384 from g52_b)) mm_X9_hang (hstk := rfl) (hlen := rfl) (hcat := Nat.le_of_ble_eq_true rfl) (isC := [0, 1, 2, 3, 4, 5]) (isR := []) (wr := []) (hC := rfl) (hR := rfl) (hnC := rfl) (hn := rfl) (hdis := by decide) (hR1 := ⟨Nat.le_of_ble_eq_true rfl, Nat.le_of_ble_eq_true rfl⟩) (hcs := ⟨Nat.le_of_ble_eq_true rfl, Nat.le_of_ble_eq_true rfl⟩) (fun v_ w_ hp_ => ?_)
            obtain ⟨n2_111, fb2_111, xs2_111, rfl, rfl, g111_l, g111_s, g111_o, g111_p, g111_b⟩ := hp_
            replace g111_l : xs2_111.length = n2_111 := g111_l
            replace g111_s : LsA fb2_111 xs2_111 := g111_s
            replace g111_o : xs2_111.Pairwise (· ≤ ·) := g111_o
            replace g111_p : xs2_111.Perm (hg lf lt (m - 1) (tree ||| 2 ^ (m - 1)) (unt g (grp g ((lf (m - 1)).toNat)) (grp g ((lt (m - 1)).toNat)) 6) ++ xs2_52) := g111_p
            replace g111_b : ∀ x_ ∈ xs2_111, x_ < 16384 := g111_b
            show Wx _ _ _ _ _ _ _ _ _ _ _ _ _ _ _ _ 114 [(7, .int (iI ((grp g ((lt (m - 1)).toNat) : Nat) : Int))), (6, .int (iI ((grp g ((lf (m - 1)).toNat) : Nat) : Int))), (5, .int (iI (5 - ((popc tree : Nat) : Int)))), (0, .ref k), (1, .int (iI link)), (2, .int (iI (tree : Int))), (3, .int (iI (g : Int))), (4, .ref h)] [] [(k, ob 8 [.ref lk, .int (iI s0), .ref lk]), (lk, ob 2 [.ref la_, .ref lb_, .int (iI (nl : Int)), .ref lf_, .ref lt_]), (lf_, ia E 14 lf), (lt_, ia E 14 lt), (h, ob 7 [.ref hb, .ref ha, .ref hc, .int (iI (n2_111 : Int)), .int (iI sg)]), (hb, ia E 2002 fb2_111)]
            exact x_vret C hr dX9_hang_114 ⟨n2_111, fb2_111, xs2_111, rfl, rfl, (show xs2_111.length = n2_111 from g111_l), (show LsA fb2_111 xs2_111 from g111_s), (show xs2_111.Pairwise (· ≤ ·) from g111_o), (show xs2_111.Perm (hg lf lt m tree g ++ xs) from two_perm hV2 g52_p g111_p), (show ∀ x_ ∈ xs2_111, x_ < 16384 from g111_b)⟩
        ·
          exact x_vret C hr dX9_hang_43 ⟨n, fb, xs, rfl, rfl, (show xs.length = n from hlen), (show LsA fb xs from hls), (show xs.Pairwise (· ≤ ·) from hso), (show xs.Perm (hg lf lt m tree g ++ xs) from by rw [hg_0 (by omega) (by omega)]; exact List.Perm.refl _), (show ∀ x_ ∈ xs, x_ < 16384 from hbd)⟩
  ·
    refine x_aload (pc' := 15) C 5 dX9_hang_13 rfl rfl ?_
    refine x_iload_n (pc' := 16) C 3 dX9_hang_15 rfl rfl ?_
    refine x_callV (pc' := 19) (As := [.int (iI (tree : Int))]) (rest := []) (q0 := 0) C rfl rfl cv_X9_32_X8 dX9_hang_16 rfl (c_X8_insert l E h hb ha hc n tree sg fb xs (show n < 2002 from by rw [hg_5 (show popc tree = 5 by omega), List.length_singleton] at hcap; omega) (show tree < 1000000 from by omega) (show xs.length = n from hlen) (show LsA fb xs from hls) (show xs.Pairwise (· ≤ ·) from hso) (show ∀ j (h : j < xs.length), xs[j] < 1000000 from get_bd (fun x_ hx_ => Nat.lt_trans (hbd x_ hx_) (by decide)))) mm_X8_insert (hstk := rfl) (hlen := rfl) (hcat := Nat.le_of_ble_eq_true rfl) (isC := [4, 5]) (isR := [0, 1, 2, 3]) (wr := [(k, ob 8 [.ref lk, .int (iI s0), .ref lk]), (lk, ob 2 [.ref la_, .ref lb_, .int (iI (nl : Int)), .ref lf_, .ref lt_]), (lf_, ia E 14 lf), (lt_, ia E 14 lt)]) (hC := rfl) (hR := rfl) (hnC := rfl) (hn := rfl) (hdis := by decide) (hR1 := ⟨Nat.le_of_ble_eq_true rfl, Nat.le_of_ble_eq_true rfl⟩) (hcs := ⟨Nat.le_of_ble_eq_true rfl, Nat.le_of_ble_eq_true rfl⟩) (fun v_ w_ hp_ => ?_)
    obtain ⟨fb2_16, xs2_16, rfl, rfl, g16_l, g16_s, g16_o, g16_p⟩ := hp_
    replace g16_l : xs2_16.length = n + 1 := g16_l
    replace g16_s : LsA fb2_16 xs2_16 := g16_s
    replace g16_o : xs2_16.Pairwise (· ≤ ·) := g16_o
    replace g16_p : xs2_16.Perm (tree :: xs) := g16_p
    show Wx _ _ _ _ _ _ _ _ _ _ _ _ _ _ _ _ 19 [(5, .int (iI (5 - ((popc tree : Nat) : Int)))), (0, .ref k), (1, .int (iI link)), (2, .int (iI (tree : Int))), (3, .int (iI (g : Int))), (4, .ref h)] [] [(k, ob 8 [.ref lk, .int (iI s0), .ref lk]), (lk, ob 2 [.ref la_, .ref lb_, .int (iI (nl : Int)), .ref lf_, .ref lt_]), (lf_, ia E 14 lf), (lt_, ia E 14 lt), (h, ob 7 [.ref hb, .ref ha, .ref hc, .int (iI ((n + 1 : Nat) : Int)), .int (iI sg)]), (hb, ia E 2002 fb2_16)]
    exact x_vret C hr dX9_hang_19 ⟨(n + 1), fb2_16, xs2_16, rfl, rfl, (show xs2_16.length = (n + 1) from g16_l), (show LsA fb2_16 xs2_16 from g16_s), (show xs2_16.Pairwise (· ≤ ·) from g16_o), (show xs2_16.Perm (hg lf lt m tree g ++ xs) from by rw [hg_5 (show popc tree = 5 by omega)]; exact g16_p), (show ∀ x_ ∈ xs2_16, x_ < 16384 from mem_bd (L := [tree]) g16_p (one_bd htr) hbd)⟩

set_option maxHeartbeats 4000000 in
set_option maxRecDepth 100000 in
theorem c_X9_listPlans (l : Launch) (E : EV) (k : Nat) (lk : Nat) (la_ : Nat) (lb_ : Nat) (lf_ : Nat) (lt_ : Nat) (nl : Nat) (s0 : Int) (lf : Nat → Int) (lt : Nat → Int) (h : Nat) (hb : Nat) (ha : Nat) (hc : Nat) (sg : Int) (fb : Nat → Int) (hnl : nl ≤ 14) (hlf : ∀ j_ : Nat, j_ < nl → 0 ≤ lf j_ ∧ lf j_ ≤ 5) (hlt : ∀ j_ : Nat, j_ < nl → 0 ≤ lt j_ ∧ lt j_ ≤ 5) (hcap : (hg lf lt nl 0 181896).length ≤ 2002) : MC l E yX9_listPlans cX9_listPlans 2 (none) ({ frames := 16, cells := 0, slots := 0, locals := 427 }) [.ref k, .ref h] [(k, ob 8 [.ref lk, .int (iI s0), .ref lk]), (lk, ob 2 [.ref la_, .ref lb_, .int (iI (nl : Int)), .ref lf_, .ref lt_]), (lf_, ia E 14 lf), (lt_, ia E 14 lt), (h, ob 7 [.ref hb, .ref ha, .ref hc, .int (iI 0), .int (iI sg)]), (hb, ia E 2002 fb)] (fun v_ w_ => ∃ (n2 : Nat) (fb2 : Nat → Int) (xs2 : List Nat), v_ = none ∧ w_ = [(k, ob 8 [.ref lk, .int (iI s0), .ref lk]), (lk, ob 2 [.ref la_, .ref lb_, .int (iI (nl : Int)), .ref lf_, .ref lt_]), (lf_, ia E 14 lf), (lt_, ia E 14 lt), (h, ob 7 [.ref hb, .ref ha, .ref hc, .int (iI (n2 : Int)), .int (iI sg)]), (hb, ia E 2002 fb2)] ∧ (xs2.length = n2) ∧ (LsA fb2 xs2) ∧ (xs2.Pairwise (· ≤ ·)) ∧ (xs2.Perm (hg lf lt nl 0 181896 ++ [])) ∧ (∀ x_ ∈ xs2, x_ < 16384)) := by
  refine MC.of (by decide +kernel) (Nat.le_of_ble_eq_true rfl) ?_
  intro p_ e_ s_ m_ args_ below_ meth_ c_ A_ C hr hnm
  have C : Cx p_ s_ m_ args_ meth_ c_ E A_ 2 cX9_listPlans RX9 := C
  show Wx _ _ _ _ _ _ _ _ _ _ _ _ _ _ _ _ 0 [(0, .ref k), (1, .ref h)] [] [(k, ob 8 [.ref lk, .int (iI s0), .ref lk]), (lk, ob 2 [.ref la_, .ref lb_, .int (iI (nl : Int)), .ref lf_, .ref lt_]), (lf_, ia E 14 lf), (lt_, ia E 14 lt), (h, ob 7 [.ref hb, .ref ha, .ref hc, .int (iI 0), .int (iI sg)]), (hb, ia E 2002 fb)]
  refine x_aload_n (pc' := 1) C 0 dX9_listPlans_0 rfl rfl ?_
  refine x_aload_n (pc' := 2) C 0 dX9_listPlans_1 rfl rfl ?_
  refine x_get (pc' := 5) C dX9_listPlans_2 rfl ff_X9_9_8 0 rfl rfl ?_
  refine x_get (pc' := 8) C dX9_listPlans_5 rfl ff_X9_15_2 1 rfl rfl ?_
  refine x_iconst (pc' := 9) C dX9_listPlans_8 rfl ?_
  refine x_isub (pc' := 10) C dX9_listPlans_9 rfl ?_
  refine x_iconst (pc' := 11) C dX9_listPlans_10 rfl ?_
  refine x_ldc (pc' := 13) (z := 181896) C dX9_listPlans_11 rfl kc_X9_21 rfl ?_
  refine x_aload_n (pc' := 14) C 1 dX9_listPlans_13 rfl rfl ?_
  refine x_callV (pc' := 17) (As := [.int (iI ((nl : Int) - 1)), .int (iI 0), .int (iI 181896), .ref h]) (rest := []) (q0 := 0) C rfl rfl cv_X9_22_X9 dX9_listPlans_14 rfl (c_X9_hang_14 l E k lk la_ lb_ lf_ lt_ nl s0 lf lt h hb ha hc sg fb 0 nl 0 181896 ((nl : Int) - 1) ([]) (show nl ≤ 14 from by omega) (show ∀ j_ : Nat, j_ < nl → 0 ≤ lf j_ ∧ lf j_ ≤ 5 from hlf) (show ∀ j_ : Nat, j_ < nl → 0 ≤ lt j_ ∧ lt j_ ≤ 5 from hlt) (show (hg lf lt nl 0 181896).length + ([]).length ≤ 2002 from by simpa using hcap) (show (((nl : Int) - 1) + 1).toNat = nl ∧ -1 ≤ ((nl : Int) - 1) from by omega) (show nl ≤ 14 ∧ nl ≤ nl from by omega) (show 0 < 16384 from by omega) (show 181896 < 262144 from by omega) (show ([]).length = 0 from rfl) (show LsA fb ([]) from LsA.nil) (show ([]).Pairwise (· ≤ ·) from List.Pairwise.nil) (show ∀ x_ ∈ ([]), x_ < 16384 from fun x_ hx_ => absurd hx_ List.not_mem_nil)) mm_X9_hang (hstk := rfl) (hlen := rfl) (hcat := Nat.le_of_ble_eq_true rfl) (isC := [0, 1, 2, 3, 4, 5]) (isR := []) (wr := []) (hC := rfl) (hR := rfl) (hnC := rfl) (hn := rfl) (hdis := by decide) (hR1 := ⟨Nat.le_of_ble_eq_true rfl, Nat.le_of_ble_eq_true rfl⟩) (hcs := ⟨Nat.le_of_ble_eq_true rfl, Nat.le_of_ble_eq_true rfl⟩) (fun v_ w_ hp_ => ?_)
  obtain ⟨n2_14, fb2_14, xs2_14, rfl, rfl, g14_l, g14_s, g14_o, g14_p, g14_b⟩ := hp_
  replace g14_l : xs2_14.length = n2_14 := g14_l
  replace g14_s : LsA fb2_14 xs2_14 := g14_s
  replace g14_o : xs2_14.Pairwise (· ≤ ·) := g14_o
  replace g14_p : xs2_14.Perm (hg lf lt nl 0 181896 ++ ([])) := g14_p
  replace g14_b : ∀ x_ ∈ xs2_14, x_ < 16384 := g14_b
  show Wx _ _ _ _ _ _ _ _ _ _ _ _ _ _ _ _ 17 [(0, .ref k), (1, .ref h)] [] [(k, ob 8 [.ref lk, .int (iI s0), .ref lk]), (lk, ob 2 [.ref la_, .ref lb_, .int (iI (nl : Int)), .ref lf_, .ref lt_]), (lf_, ia E 14 lf), (lt_, ia E 14 lt), (h, ob 7 [.ref hb, .ref ha, .ref hc, .int (iI (n2_14 : Int)), .int (iI sg)]), (hb, ia E 2002 fb2_14)]
  exact x_vret C hr dX9_listPlans_17 ⟨n2_14, fb2_14, xs2_14, rfl, rfl, (show xs2_14.length = n2_14 from g14_l), (show LsA fb2_14 xs2_14 from g14_s), (show xs2_14.Pairwise (· ≤ ·) from g14_o), (show xs2_14.Perm (hg lf lt nl 0 181896 ++ []) from g14_p), (show ∀ x_ ∈ xs2_14, x_ < 16384 from g14_b)⟩

set_option maxHeartbeats 4000000 in
set_option maxRecDepth 100000 in
theorem c_X5_match_0 (l : Launch) (E : EV) (k : Nat) (kp : Nat) (s0 : Int) (h : Nat) (hb : Nat) (ha : Nat) (hc : Nat) (sg : Int) (fb : Nat → Int) (n : Nat) (tk : Nat) (pr : Nat) (xs : List Nat) (hcap : (mt tk pr 0).length + xs.length ≤ 2002) (htk : tk < 16) (hpr : pr < 65536) (hlen : xs.length = n) (hls : LsA fb xs) (hso : xs.Pairwise (· ≤ ·)) (hbd : ∀ x_ ∈ xs, x_ < 65536) : MC l E yX5_match cX5_match 6 (none) ({ frames := 1, cells := 0, slots := 0, locals := 22 }) [.ref k, .int (iI (-1)), .int (iI (tk : Int)), .int (iI (pr : Int)), .ref h] [(k, ob 4 [.ref kp, .int (iI s0)]), (h, ob 7 [.ref hb, .ref ha, .ref hc, .int (iI (n : Int)), .int (iI sg)]), (hb, ia E 2002 fb)] (fun v_ w_ => ∃ (n2 : Nat) (fb2 : Nat → Int) (xs2 : List Nat), v_ = none ∧ w_ = [(k, ob 4 [.ref kp, .int (iI s0)]), (h, ob 7 [.ref hb, .ref ha, .ref hc, .int (iI (n2 : Int)), .int (iI sg)]), (hb, ia E 2002 fb2)] ∧ (xs2.length = n2) ∧ (LsA fb2 xs2) ∧ (xs2.Pairwise (· ≤ ·)) ∧ (xs2.Perm (mt tk pr 0 ++ xs)) ∧ (∀ x_ ∈ xs2, x_ < 65536)) := by
  refine MC.of (by decide +kernel) (Nat.le_of_ble_eq_true rfl) ?_
  intro p_ e_ s_ m_ args_ below_ meth_ c_ A_ C hr hnm
  have C : Cx p_ s_ m_ args_ meth_ c_ E A_ 6 cX5_match RX5 := C
  show Wx _ _ _ _ _ _ _ _ _ _ _ _ _ _ _ _ 0 [(0, .ref k), (1, .int (iI (-1))), (2, .int (iI (tk : Int))), (3, .int (iI (pr : Int))), (4, .ref h)] [] [(k, ob 4 [.ref kp, .int (iI s0)]), (h, ob 7 [.ref hb, .ref ha, .ref hc, .int (iI (n : Int)), .int (iI sg)]), (hb, ia E 2002 fb)]
  refine x_iload_n (pc' := 1) C 1 dX5_match_0 rfl rfl ?_
  refine x_if_ge (pc' := 4) (tgt := 11) C dX5_match_1 rfl (by decide) (by omega) (fun c1 => ?_) (fun c1 => ?_)
  ·
    exact absurd c1 (by omega)
  ·
    refine x_aload (pc' := 6) C 4 dX5_match_4 rfl rfl ?_
    refine x_iload_n (pc' := 7) C 3 dX5_match_6 rfl rfl ?_
    refine x_callV (pc' := 10) (As := [.int (iI (pr : Int))]) (rest := []) (q0 := 0) C rfl rfl cv_X5_21_X8 dX5_match_7 rfl (c_X8_insert l E h hb ha hc n pr sg fb xs (show n < 2002 from by rw [mt_0, List.length_singleton] at hcap; omega) (show pr < 1000000 from by omega) (show xs.length = n from hlen) (show LsA fb xs from hls) (show xs.Pairwise (· ≤ ·) from hso) (show ∀ j (h : j < xs.length), xs[j] < 1000000 from get_bd (fun x_ hx_ => Nat.lt_trans (hbd x_ hx_) (by decide)))) mm_X8_insert (hstk := rfl) (hlen := rfl) (hcat := Nat.le_of_ble_eq_true rfl) (isC := [1, 2]) (isR := [0]) (wr := [(k, ob 4 [.ref kp, .int (iI s0)])]) (hC := rfl) (hR := rfl) (hnC := rfl) (hn := rfl) (hdis := by decide) (hR1 := ⟨Nat.le_of_ble_eq_true rfl, Nat.le_of_ble_eq_true rfl⟩) (hcs := ⟨Nat.le_of_ble_eq_true rfl, Nat.le_of_ble_eq_true rfl⟩) (fun v_ w_ hp_ => ?_)
    obtain ⟨fb2_7, xs2_7, rfl, rfl, g7_l, g7_s, g7_o, g7_p⟩ := hp_
    replace g7_l : xs2_7.length = n + 1 := g7_l
    replace g7_s : LsA fb2_7 xs2_7 := g7_s
    replace g7_o : xs2_7.Pairwise (· ≤ ·) := g7_o
    replace g7_p : xs2_7.Perm (pr :: xs) := g7_p
    show Wx _ _ _ _ _ _ _ _ _ _ _ _ _ _ _ _ 10 [(0, .ref k), (1, .int (iI (-1))), (2, .int (iI (tk : Int))), (3, .int (iI (pr : Int))), (4, .ref h)] [] [(k, ob 4 [.ref kp, .int (iI s0)]), (h, ob 7 [.ref hb, .ref ha, .ref hc, .int (iI ((n + 1 : Nat) : Int)), .int (iI sg)]), (hb, ia E 2002 fb2_7)]
    exact x_vret C hr dX5_match_10 ⟨(n + 1), fb2_7, xs2_7, rfl, rfl, (show xs2_7.length = (n + 1) from g7_l), (show LsA fb2_7 xs2_7 from g7_s), (show xs2_7.Pairwise (· ≤ ·) from g7_o), (show xs2_7.Perm (mt tk pr 0 ++ xs) from g7_p), (show ∀ x_ ∈ xs2_7, x_ < 65536 from mem_bd (L := [pr]) g7_p (one_bd hpr) hbd)⟩

set_option maxHeartbeats 4000000 in
set_option maxRecDepth 100000 in
theorem c_X5_match_1 (l : Launch) (E : EV) (k : Nat) (kp : Nat) (s0 : Int) (h : Nat) (hb : Nat) (ha : Nat) (hc : Nat) (sg : Int) (fb : Nat → Int) (n : Nat) (tk : Nat) (pr : Nat) (xs : List Nat) (hcap : (mt tk pr 1).length + xs.length ≤ 2002) (htk : tk < 16) (hpr : pr < 65536) (hlen : xs.length = n) (hls : LsA fb xs) (hso : xs.Pairwise (· ≤ ·)) (hbd : ∀ x_ ∈ xs, x_ < 65536) : MC l E yX5_match cX5_match 6 (none) ({ frames := 2, cells := 0, slots := 0, locals := 47 }) [.ref k, .int (iI 0), .int (iI (tk : Int)), .int (iI (pr : Int)), .ref h] [(k, ob 4 [.ref kp, .int (iI s0)]), (h, ob 7 [.ref hb, .ref ha, .ref hc, .int (iI (n : Int)), .int (iI sg)]), (hb, ia E 2002 fb)] (fun v_ w_ => ∃ (n2 : Nat) (fb2 : Nat → Int) (xs2 : List Nat), v_ = none ∧ w_ = [(k, ob 4 [.ref kp, .int (iI s0)]), (h, ob 7 [.ref hb, .ref ha, .ref hc, .int (iI (n2 : Int)), .int (iI sg)]), (hb, ia E 2002 fb2)] ∧ (xs2.length = n2) ∧ (LsA fb2 xs2) ∧ (xs2.Pairwise (· ≤ ·)) ∧ (xs2.Perm (mt tk pr 1 ++ xs)) ∧ (∀ x_ ∈ xs2, x_ < 65536)) := by
  refine MC.of (by decide +kernel) (Nat.le_of_ble_eq_true rfl) ?_
  intro p_ e_ s_ m_ args_ below_ meth_ c_ A_ C hr hnm
  have C : Cx p_ s_ m_ args_ meth_ c_ E A_ 6 cX5_match RX5 := C
  show Wx _ _ _ _ _ _ _ _ _ _ _ _ _ _ _ _ 0 [(0, .ref k), (1, .int (iI 0)), (2, .int (iI (tk : Int))), (3, .int (iI (pr : Int))), (4, .ref h)] [] [(k, ob 4 [.ref kp, .int (iI s0)]), (h, ob 7 [.ref hb, .ref ha, .ref hc, .int (iI (n : Int)), .int (iI sg)]), (hb, ia E 2002 fb)]
  refine x_iload_n (pc' := 1) C 1 dX5_match_0 rfl rfl ?_
  refine x_if_ge (pc' := 4) (tgt := 11) C dX5_match_1 rfl (by decide) (by omega) (fun c1 => ?_) (fun c1 => ?_)
  ·
    refine x_iconst (pc' := 12) C dX5_match_11 rfl ?_
    refine x_istore (pc' := 14) (lv' := [(5, .int (iI 0)), (0, .ref k), (1, .int (iI 0)), (2, .int (iI (tk : Int))), (3, .int (iI (pr : Int))), (4, .ref h)]) C dX5_match_12 rfl (by decide) rfl ?_
    refine x_lv [1, 2, 3, 4, 5, 0] rfl ?_
    refine x_loop (α := (Nat) × (Nat) × (Nat → Int) × (List Nat)) (fun a_ => (a_.1 ≤ 4) ∧ (a_.2.2.2.length = a_.2.1) ∧ (LsA a_.2.2.1 a_.2.2.2) ∧ (a_.2.2.2.Pairwise (· ≤ ·)) ∧ (a_.2.2.2.Perm (fm (mtF 0 tk pr) a_.1 ++ xs)) ∧ (∀ x_ ∈ a_.2.2.2, x_ < 65536)) (fun a_ => 4 - a_.1) (fun a_ => [(0, .ref k), (1, .int (iI 0)), (2, .int (iI (tk : Int))), (3, .int (iI (pr : Int))), (4, .ref h), (5, .int (iI (a_.1 : Int)))]) (fun a_ => [(k, ob 4 [.ref kp, .int (iI s0)]), (h, ob 7 [.ref hb, .ref ha, .ref hc, .int (iI (a_.2.1 : Int)), .int (iI sg)]), (hb, ia E 2002 a_.2.2.1)]) ?_ (0, n, fb, xs) ?_
    · intro a_ hI_ ih14
      obtain ⟨i, n1, f1, xs1⟩ := a_
      obtain ⟨hi, hl, hs, ho, hp_, hb_⟩ := hI_
      replace hi : i ≤ 4 := hi
      replace hl : xs1.length = n1 := hl
      replace hs : LsA f1 xs1 := hs
      replace ho : xs1.Pairwise (· ≤ ·) := ho
      replace hp_ : xs1.Perm (fm (mtF 0 tk pr) i ++ xs) := hp_
      replace hb_ : ∀ x_ ∈ xs1, x_ < 65536 := hb_
      show Wx _ _ _ _ _ _ _ _ _ _ _ _ _ _ _ _ 14 [(0, .ref k), (1, .int (iI 0)), (2, .int (iI (tk : Int))), (3, .int (iI (pr : Int))), (4, .ref h), (5, .int (iI (i : Int)))] [] [(k, ob 4 [.ref kp, .int (iI s0)]), (h, ob 7 [.ref hb, .ref ha, .ref hc, .int (iI (n1 : Int)), .int (iI sg)]), (hb, ia E 2002 f1)]
      refine x_iload (pc' := 16) C 5 dX5_match_14 rfl rfl ?_
      refine x_iconst (pc' := 17) C dX5_match_16 rfl ?_
      refine x_icmp_ge (pc' := 20) (tgt := 63) C dX5_match_17 rfl (by decide) (by omega) (by omega) (fun c17 => ?_) (fun c17 => ?_)
      ·
        exact x_vret C hr dX5_match_63 ⟨n1, f1, xs1, rfl, rfl, (show xs1.length = n1 from hl), (show LsA f1 xs1 from hs), (show xs1.Pairwise (· ≤ ·) from ho), (show xs1.Perm (mt tk pr 1 ++ xs) from by have e_ : i = 4 := (by omega); subst e_; exact hp_), (show ∀ x_ ∈ xs1, x_ < 65536 from hb_)⟩
      ·
        refine x_iload_n (pc' := 21) C 2 dX5_match_20 rfl rfl ?_
        refine x_iload (pc' := 23) C 5 dX5_match_21 rfl rfl ?_
        refine x_callN (pc' := 26) (As := [.int (iI (tk : Int)), .int (iI (i : Int))]) (rest := []) C cn_X5_27 dX5_match_23 rfl (c_X11_holds l E tk i (show tk < 2147483648 from by omega) (show i < 32 from by omega)) mm_X11_holds (hstk := rfl) (hlen := rfl) (hcat := Nat.le_of_ble_eq_true rfl) (isC := []) (isR := [0, 1, 2]) (wr := [(k, ob 4 [.ref kp, .int (iI s0)]), (h, ob 7 [.ref hb, .ref ha, .ref hc, .int (iI (n1 : Int)), .int (iI sg)]), (hb, ia E 2002 f1)]) (hC := rfl) (hR := rfl) (hnC := rfl) (hn := rfl) (hdis := by decide) (hR1 := ⟨Nat.le_of_ble_eq_true rfl, Nat.le_of_ble_eq_true rfl⟩) (hcs := ⟨Nat.le_of_ble_eq_true rfl, Nat.le_of_ble_eq_true rfl⟩) (fun v_ w_ hp_ => ?_)
        obtain ⟨rfl, rfl⟩ := hp_
        show Wx _ _ _ _ _ _ _ _ _ _ _ _ _ _ _ _ 26 [(0, .ref k), (1, .int (iI 0)), (2, .int (iI (tk : Int))), (3, .int (iI (pr : Int))), (4, .ref h), (5, .int (iI (i : Int)))] [.int (iI (bI (tk.testBit i = true)))] [(k, ob 4 [.ref kp, .int (iI s0)]), (h, ob 7 [.ref hb, .ref ha, .ref hc, .int (iI (n1 : Int)), .int (iI sg)]), (hb, ia E 2002 f1)]
        refine x_if_eq (pc' := 29) (tgt := 32) C dX5_match_26 rfl (by decide) (bI_rng) (fun c26 => ?_) (fun c26 => ?_)
        ·
          replace c26 := bI_z c26
          have hFi : (mtF 0 tk pr) i = mt (tk ||| 2 ^ i) (pr ||| 2 ^ (4 * 0 + i)) 0 := by unfold mtF; rw [if_neg c26]
          have hcx := fm_cap hp_ (show i < 4 by omega) hcap
          rw [hFi] at hcx
          refine x_aload_n (pc' := 33) C 0 dX5_match_32 rfl rfl ?_
          refine x_iload_n (pc' := 34) C 1 dX5_match_33 rfl rfl ?_
          refine x_iconst (pc' := 35) C dX5_match_34 rfl ?_
          refine x_isub (pc' := 36) C dX5_match_35 rfl ?_
          refine x_top (b := .int (iI (-1))) (rfl) ?_
          refine x_iload_n (pc' := 37) C 2 dX5_match_36 rfl rfl ?_
          refine x_iconst (pc' := 38) C dX5_match_37 rfl ?_
          refine x_iload (pc' := 40) C 5 dX5_match_38 rfl rfl ?_
          refine x_ishl (pc' := 41) (z := (iI ((2 ^ i : Nat) : Int))) C dX5_match_40 rfl (bt_shl (by omega)) ?_
          refine x_ior (pc' := 42) (z := (iI ((tk ||| 2 ^ i : Nat) : Int))) C dX5_match_41 rfl (bt_or _ _) ?_
          refine x_iload_n (pc' := 43) C 3 dX5_match_42 rfl rfl ?_
          refine x_iconst (pc' := 44) C dX5_match_43 rfl ?_
          refine x_iconst (pc' := 45) C dX5_match_44 rfl ?_
          refine x_iload_n (pc' := 46) C 1 dX5_match_45 rfl rfl ?_
          refine x_imul (pc' := 47) C dX5_match_46 rfl ?_
          refine x_iload (pc' := 49) C 5 dX5_match_47 rfl rfl ?_
          refine x_iadd (pc' := 50) C dX5_match_49 rfl ?_
          refine x_top (b := .int (iI ((4 * 0 + i : Nat) : Int))) (rfl) ?_
          refine x_ishl (pc' := 51) (z := (iI ((2 ^ (4 * 0 + i) : Nat) : Int))) C dX5_match_50 rfl (bt_shl (by omega)) ?_
          refine x_ior (pc' := 52) (z := (iI ((pr ||| 2 ^ (4 * 0 + i) : Nat) : Int))) C dX5_match_51 rfl (bt_or _ _) ?_
          refine x_aload (pc' := 54) C 4 dX5_match_52 rfl rfl ?_
          refine x_callV (pc' := 57) (As := [.int (iI (-1)), .int (iI ((tk ||| 2 ^ i : Nat) : Int)), .int (iI ((pr ||| 2 ^ (4 * 0 + i) : Nat) : Int)), .ref h]) (rest := []) (q0 := 0) C rfl rfl cv_X5_15_X5 dX5_match_54 rfl (c_X5_match_0 l E k kp s0 h hb ha hc sg f1 n1 (tk ||| 2 ^ i) (pr ||| 2 ^ (4 * 0 + i)) xs1 (show (mt (tk ||| 2 ^ i) (pr ||| 2 ^ (4 * 0 + i)) 0).length + xs1.length ≤ 2002 from hcx) (show (tk ||| 2 ^ i) < 16 from or_bd (N := 4) htk (by omega)) (show (pr ||| 2 ^ (4 * 0 + i)) < 65536 from or_bd (N := 16) hpr (by omega)) (show xs1.length = n1 from hl) (show LsA f1 xs1 from hs) (show xs1.Pairwise (· ≤ ·) from ho) (show ∀ x_ ∈ xs1, x_ < 65536 from hb_)) mm_X5_match (hstk := rfl) (hlen := rfl) (hcat := Nat.le_of_ble_eq_true rfl) (isC := [0, 1, 2]) (isR := []) (wr := []) (hC := rfl) (hR := rfl) (hnC := rfl) (hn := rfl) (hdis := by decide) (hR1 := ⟨Nat.le_of_ble_eq_true rfl, Nat.le_of_ble_eq_true rfl⟩) (hcs := ⟨Nat.le_of_ble_eq_true rfl, Nat.le_of_ble_eq_true rfl⟩) (fun v_ w_ hp_ => ?_)
          obtain ⟨n2_54, fb2_54, xs2_54, rfl, rfl, g54_l, g54_s, g54_o, g54_p, g54_b⟩ := hp_
          replace g54_l : xs2_54.length = n2_54 := g54_l
          replace g54_s : LsA fb2_54 xs2_54 := g54_s
          replace g54_o : xs2_54.Pairwise (· ≤ ·) := g54_o
          replace g54_p : xs2_54.Perm (mt (tk ||| 2 ^ i) (pr ||| 2 ^ (4 * 0 + i)) 0 ++ xs1) := g54_p
          replace g54_b : ∀ x_ ∈ xs2_54, x_ < 65536 := g54_b
          show Wx _ _ _ _ _ _ _ _ _ _ _ _ _ _ _ _ 57 [(0, .ref k), (1, .int (iI 0)), (2, .int (iI (tk : Int))), (3, .int (iI (pr : Int))), (4, .ref h), (5, .int (iI (i : Int)))] [] [(k, ob 4 [.ref kp, .int (iI s0)]), (h, ob 7 [.ref hb, .ref ha, .ref hc, .int (iI (n2_54 : Int)), .int (iI sg)]), (hb, ia E 2002 fb2_54)]
          refine x_iinc (pc' := 60) (lv' := [(5, .int (iI ((i : Int) + 1))), (0, .ref k), (1, .int (iI 0)), (2, .int (iI (tk : Int))), (3, .int (iI (pr : Int))), (4, .ref h)]) C 5 dX5_match_57 rfl (by decide) rfl rfl ?_
          refine x_lvI (lv' := [(5, .int (iI ((i + 1 : Nat) : Int))), (0, .ref k), (1, .int (iI 0)), (2, .int (iI (tk : Int))), (3, .int (iI (pr : Int))), (4, .ref h)]) 0 rfl (by omega) rfl ?_
          refine x_goto (tgt := 14) C dX5_match_60 (by decide) ?_
          refine x_lv [1, 2, 3, 4, 5, 0] rfl ?_
          exact ih14 ((i + 1), n2_54, fb2_54, xs2_54) ⟨(show (i + 1) ≤ 4 from by omega), (show xs2_54.length = n2_54 from g54_l), (show LsA fb2_54 xs2_54 from g54_s), (show xs2_54.Pairwise (· ≤ ·) from g54_o), (show xs2_54.Perm (fm (mtF 0 tk pr) (i + 1) ++ xs) from fm_perm hp_ hFi g54_p), (show ∀ x_ ∈ xs2_54, x_ < 65536 from g54_b)⟩ (show 4 - (i + 1) < 4 - i from by omega)
        ·
          replace c26 := bI_nz c26
          refine x_goto (tgt := 57) C dX5_match_29 (by decide) ?_
          refine x_iinc (pc' := 60) (lv' := [(5, .int (iI ((i : Int) + 1))), (0, .ref k), (1, .int (iI 0)), (2, .int (iI (tk : Int))), (3, .int (iI (pr : Int))), (4, .ref h)]) C 5 dX5_match_57 rfl (by decide) rfl rfl ?_
          refine x_lvI (lv' := [(5, .int (iI ((i + 1 : Nat) : Int))), (0, .ref k), (1, .int (iI 0)), (2, .int (iI (tk : Int))), (3, .int (iI (pr : Int))), (4, .ref h)]) 0 rfl (by omega) rfl ?_
          refine x_goto (tgt := 14) C dX5_match_60 (by decide) ?_
          refine x_lv [1, 2, 3, 4, 5, 0] rfl ?_
          exact ih14 ((i + 1), n1, f1, xs1) ⟨(show (i + 1) ≤ 4 from by omega), (show xs1.length = n1 from hl), (show LsA f1 xs1 from hs), (show xs1.Pairwise (· ≤ ·) from ho), (show xs1.Perm (fm (mtF 0 tk pr) (i + 1) ++ xs) from fm_skip hp_ (by unfold mtF; rw [if_pos c26])), (show ∀ x_ ∈ xs1, x_ < 65536 from hb_)⟩ (show 4 - (i + 1) < 4 - i from by omega)
    · exact ⟨(show 0 ≤ 4 from by omega), (show xs.length = n from hlen), (show LsA fb xs from hls), (show xs.Pairwise (· ≤ ·) from hso), (show xs.Perm (fm (mtF 0 tk pr) 0 ++ xs) from List.Perm.refl _), (show ∀ x_ ∈ xs, x_ < 65536 from hbd)⟩
  ·
    exact absurd c1 (by omega)

set_option maxHeartbeats 4000000 in
set_option maxRecDepth 100000 in
theorem c_X5_match_2 (l : Launch) (E : EV) (k : Nat) (kp : Nat) (s0 : Int) (h : Nat) (hb : Nat) (ha : Nat) (hc : Nat) (sg : Int) (fb : Nat → Int) (n : Nat) (tk : Nat) (pr : Nat) (xs : List Nat) (hcap : (mt tk pr 2).length + xs.length ≤ 2002) (htk : tk < 16) (hpr : pr < 65536) (hlen : xs.length = n) (hls : LsA fb xs) (hso : xs.Pairwise (· ≤ ·)) (hbd : ∀ x_ ∈ xs, x_ < 65536) : MC l E yX5_match cX5_match 6 (none) ({ frames := 3, cells := 0, slots := 0, locals := 72 }) [.ref k, .int (iI 1), .int (iI (tk : Int)), .int (iI (pr : Int)), .ref h] [(k, ob 4 [.ref kp, .int (iI s0)]), (h, ob 7 [.ref hb, .ref ha, .ref hc, .int (iI (n : Int)), .int (iI sg)]), (hb, ia E 2002 fb)] (fun v_ w_ => ∃ (n2 : Nat) (fb2 : Nat → Int) (xs2 : List Nat), v_ = none ∧ w_ = [(k, ob 4 [.ref kp, .int (iI s0)]), (h, ob 7 [.ref hb, .ref ha, .ref hc, .int (iI (n2 : Int)), .int (iI sg)]), (hb, ia E 2002 fb2)] ∧ (xs2.length = n2) ∧ (LsA fb2 xs2) ∧ (xs2.Pairwise (· ≤ ·)) ∧ (xs2.Perm (mt tk pr 2 ++ xs)) ∧ (∀ x_ ∈ xs2, x_ < 65536)) := by
  refine MC.of (by decide +kernel) (Nat.le_of_ble_eq_true rfl) ?_
  intro p_ e_ s_ m_ args_ below_ meth_ c_ A_ C hr hnm
  have C : Cx p_ s_ m_ args_ meth_ c_ E A_ 6 cX5_match RX5 := C
  show Wx _ _ _ _ _ _ _ _ _ _ _ _ _ _ _ _ 0 [(0, .ref k), (1, .int (iI 1)), (2, .int (iI (tk : Int))), (3, .int (iI (pr : Int))), (4, .ref h)] [] [(k, ob 4 [.ref kp, .int (iI s0)]), (h, ob 7 [.ref hb, .ref ha, .ref hc, .int (iI (n : Int)), .int (iI sg)]), (hb, ia E 2002 fb)]
  refine x_iload_n (pc' := 1) C 1 dX5_match_0 rfl rfl ?_
  refine x_if_ge (pc' := 4) (tgt := 11) C dX5_match_1 rfl (by decide) (by omega) (fun c1 => ?_) (fun c1 => ?_)
  ·
    refine x_iconst (pc' := 12) C dX5_match_11 rfl ?_
    refine x_istore (pc' := 14) (lv' := [(5, .int (iI 0)), (0, .ref k), (1, .int (iI 1)), (2, .int (iI (tk : Int))), (3, .int (iI (pr : Int))), (4, .ref h)]) C dX5_match_12 rfl (by decide) rfl ?_
    refine x_lv [1, 2, 3, 4, 5, 0] rfl ?_
    refine x_loop (α := (Nat) × (Nat) × (Nat → Int) × (List Nat)) (fun a_ => (a_.1 ≤ 4) ∧ (a_.2.2.2.length = a_.2.1) ∧ (LsA a_.2.2.1 a_.2.2.2) ∧ (a_.2.2.2.Pairwise (· ≤ ·)) ∧ (a_.2.2.2.Perm (fm (mtF 1 tk pr) a_.1 ++ xs)) ∧ (∀ x_ ∈ a_.2.2.2, x_ < 65536)) (fun a_ => 4 - a_.1) (fun a_ => [(0, .ref k), (1, .int (iI 1)), (2, .int (iI (tk : Int))), (3, .int (iI (pr : Int))), (4, .ref h), (5, .int (iI (a_.1 : Int)))]) (fun a_ => [(k, ob 4 [.ref kp, .int (iI s0)]), (h, ob 7 [.ref hb, .ref ha, .ref hc, .int (iI (a_.2.1 : Int)), .int (iI sg)]), (hb, ia E 2002 a_.2.2.1)]) ?_ (0, n, fb, xs) ?_
    · intro a_ hI_ ih14
      obtain ⟨i, n1, f1, xs1⟩ := a_
      obtain ⟨hi, hl, hs, ho, hp_, hb_⟩ := hI_
      replace hi : i ≤ 4 := hi
      replace hl : xs1.length = n1 := hl
      replace hs : LsA f1 xs1 := hs
      replace ho : xs1.Pairwise (· ≤ ·) := ho
      replace hp_ : xs1.Perm (fm (mtF 1 tk pr) i ++ xs) := hp_
      replace hb_ : ∀ x_ ∈ xs1, x_ < 65536 := hb_
      show Wx _ _ _ _ _ _ _ _ _ _ _ _ _ _ _ _ 14 [(0, .ref k), (1, .int (iI 1)), (2, .int (iI (tk : Int))), (3, .int (iI (pr : Int))), (4, .ref h), (5, .int (iI (i : Int)))] [] [(k, ob 4 [.ref kp, .int (iI s0)]), (h, ob 7 [.ref hb, .ref ha, .ref hc, .int (iI (n1 : Int)), .int (iI sg)]), (hb, ia E 2002 f1)]
      refine x_iload (pc' := 16) C 5 dX5_match_14 rfl rfl ?_
      refine x_iconst (pc' := 17) C dX5_match_16 rfl ?_
      refine x_icmp_ge (pc' := 20) (tgt := 63) C dX5_match_17 rfl (by decide) (by omega) (by omega) (fun c17 => ?_) (fun c17 => ?_)
      ·
        exact x_vret C hr dX5_match_63 ⟨n1, f1, xs1, rfl, rfl, (show xs1.length = n1 from hl), (show LsA f1 xs1 from hs), (show xs1.Pairwise (· ≤ ·) from ho), (show xs1.Perm (mt tk pr 2 ++ xs) from by have e_ : i = 4 := (by omega); subst e_; exact hp_), (show ∀ x_ ∈ xs1, x_ < 65536 from hb_)⟩
      ·
        refine x_iload_n (pc' := 21) C 2 dX5_match_20 rfl rfl ?_
        refine x_iload (pc' := 23) C 5 dX5_match_21 rfl rfl ?_
        refine x_callN (pc' := 26) (As := [.int (iI (tk : Int)), .int (iI (i : Int))]) (rest := []) C cn_X5_27 dX5_match_23 rfl (c_X11_holds l E tk i (show tk < 2147483648 from by omega) (show i < 32 from by omega)) mm_X11_holds (hstk := rfl) (hlen := rfl) (hcat := Nat.le_of_ble_eq_true rfl) (isC := []) (isR := [0, 1, 2]) (wr := [(k, ob 4 [.ref kp, .int (iI s0)]), (h, ob 7 [.ref hb, .ref ha, .ref hc, .int (iI (n1 : Int)), .int (iI sg)]), (hb, ia E 2002 f1)]) (hC := rfl) (hR := rfl) (hnC := rfl) (hn := rfl) (hdis := by decide) (hR1 := ⟨Nat.le_of_ble_eq_true rfl, Nat.le_of_ble_eq_true rfl⟩) (hcs := ⟨Nat.le_of_ble_eq_true rfl, Nat.le_of_ble_eq_true rfl⟩) (fun v_ w_ hp_ => ?_)
        obtain ⟨rfl, rfl⟩ := hp_
        show Wx _ _ _ _ _ _ _ _ _ _ _ _ _ _ _ _ 26 [(0, .ref k), (1, .int (iI 1)), (2, .int (iI (tk : Int))), (3, .int (iI (pr : Int))), (4, .ref h), (5, .int (iI (i : Int)))] [.int (iI (bI (tk.testBit i = true)))] [(k, ob 4 [.ref kp, .int (iI s0)]), (h, ob 7 [.ref hb, .ref ha, .ref hc, .int (iI (n1 : Int)), .int (iI sg)]), (hb, ia E 2002 f1)]
        refine x_if_eq (pc' := 29) (tgt := 32) C dX5_match_26 rfl (by decide) (bI_rng) (fun c26 => ?_) (fun c26 => ?_)
        ·
          replace c26 := bI_z c26
          have hFi : (mtF 1 tk pr) i = mt (tk ||| 2 ^ i) (pr ||| 2 ^ (4 * 1 + i)) 1 := by unfold mtF; rw [if_neg c26]
          have hcx := fm_cap hp_ (show i < 4 by omega) hcap
          rw [hFi] at hcx
          refine x_aload_n (pc' := 33) C 0 dX5_match_32 rfl rfl ?_
          refine x_iload_n (pc' := 34) C 1 dX5_match_33 rfl rfl ?_
          refine x_iconst (pc' := 35) C dX5_match_34 rfl ?_
          refine x_isub (pc' := 36) C dX5_match_35 rfl ?_
          refine x_top (b := .int (iI 0)) (rfl) ?_
          refine x_iload_n (pc' := 37) C 2 dX5_match_36 rfl rfl ?_
          refine x_iconst (pc' := 38) C dX5_match_37 rfl ?_
          refine x_iload (pc' := 40) C 5 dX5_match_38 rfl rfl ?_
          refine x_ishl (pc' := 41) (z := (iI ((2 ^ i : Nat) : Int))) C dX5_match_40 rfl (bt_shl (by omega)) ?_
          refine x_ior (pc' := 42) (z := (iI ((tk ||| 2 ^ i : Nat) : Int))) C dX5_match_41 rfl (bt_or _ _) ?_
          refine x_iload_n (pc' := 43) C 3 dX5_match_42 rfl rfl ?_
          refine x_iconst (pc' := 44) C dX5_match_43 rfl ?_
          refine x_iconst (pc' := 45) C dX5_match_44 rfl ?_
          refine x_iload_n (pc' := 46) C 1 dX5_match_45 rfl rfl ?_
          refine x_imul (pc' := 47) C dX5_match_46 rfl ?_
          refine x_iload (pc' := 49) C 5 dX5_match_47 rfl rfl ?_
          refine x_iadd (pc' := 50) C dX5_match_49 rfl ?_
          refine x_top (b := .int (iI ((4 * 1 + i : Nat) : Int))) (rfl) ?_
          refine x_ishl (pc' := 51) (z := (iI ((2 ^ (4 * 1 + i) : Nat) : Int))) C dX5_match_50 rfl (bt_shl (by omega)) ?_
          refine x_ior (pc' := 52) (z := (iI ((pr ||| 2 ^ (4 * 1 + i) : Nat) : Int))) C dX5_match_51 rfl (bt_or _ _) ?_
          refine x_aload (pc' := 54) C 4 dX5_match_52 rfl rfl ?_
          refine x_callV (pc' := 57) (As := [.int (iI 0), .int (iI ((tk ||| 2 ^ i : Nat) : Int)), .int (iI ((pr ||| 2 ^ (4 * 1 + i) : Nat) : Int)), .ref h]) (rest := []) (q0 := 0) C rfl rfl cv_X5_15_X5 dX5_match_54 rfl (c_X5_match_1 l E k kp s0 h hb ha hc sg f1 n1 (tk ||| 2 ^ i) (pr ||| 2 ^ (4 * 1 + i)) xs1 (show (mt (tk ||| 2 ^ i) (pr ||| 2 ^ (4 * 1 + i)) 1).length + xs1.length ≤ 2002 from hcx) (show (tk ||| 2 ^ i) < 16 from or_bd (N := 4) htk (by omega)) (show (pr ||| 2 ^ (4 * 1 + i)) < 65536 from or_bd (N := 16) hpr (by omega)) (show xs1.length = n1 from hl) (show LsA f1 xs1 from hs) (show xs1.Pairwise (· ≤ ·) from ho) (show ∀ x_ ∈ xs1, x_ < 65536 from hb_)) mm_X5_match (hstk := rfl) (hlen := rfl) (hcat := Nat.le_of_ble_eq_true rfl) (isC := [0, 1, 2]) (isR := []) (wr := []) (hC := rfl) (hR := rfl) (hnC := rfl) (hn := rfl) (hdis := by decide) (hR1 := ⟨Nat.le_of_ble_eq_true rfl, Nat.le_of_ble_eq_true rfl⟩) (hcs := ⟨Nat.le_of_ble_eq_true rfl, Nat.le_of_ble_eq_true rfl⟩) (fun v_ w_ hp_ => ?_)
          obtain ⟨n2_54, fb2_54, xs2_54, rfl, rfl, g54_l, g54_s, g54_o, g54_p, g54_b⟩ := hp_
          replace g54_l : xs2_54.length = n2_54 := g54_l
          replace g54_s : LsA fb2_54 xs2_54 := g54_s
          replace g54_o : xs2_54.Pairwise (· ≤ ·) := g54_o
          replace g54_p : xs2_54.Perm (mt (tk ||| 2 ^ i) (pr ||| 2 ^ (4 * 1 + i)) 1 ++ xs1) := g54_p
          replace g54_b : ∀ x_ ∈ xs2_54, x_ < 65536 := g54_b
          show Wx _ _ _ _ _ _ _ _ _ _ _ _ _ _ _ _ 57 [(0, .ref k), (1, .int (iI 1)), (2, .int (iI (tk : Int))), (3, .int (iI (pr : Int))), (4, .ref h), (5, .int (iI (i : Int)))] [] [(k, ob 4 [.ref kp, .int (iI s0)]), (h, ob 7 [.ref hb, .ref ha, .ref hc, .int (iI (n2_54 : Int)), .int (iI sg)]), (hb, ia E 2002 fb2_54)]
          refine x_iinc (pc' := 60) (lv' := [(5, .int (iI ((i : Int) + 1))), (0, .ref k), (1, .int (iI 1)), (2, .int (iI (tk : Int))), (3, .int (iI (pr : Int))), (4, .ref h)]) C 5 dX5_match_57 rfl (by decide) rfl rfl ?_
          refine x_lvI (lv' := [(5, .int (iI ((i + 1 : Nat) : Int))), (0, .ref k), (1, .int (iI 1)), (2, .int (iI (tk : Int))), (3, .int (iI (pr : Int))), (4, .ref h)]) 0 rfl (by omega) rfl ?_
          refine x_goto (tgt := 14) C dX5_match_60 (by decide) ?_
          refine x_lv [1, 2, 3, 4, 5, 0] rfl ?_
          exact ih14 ((i + 1), n2_54, fb2_54, xs2_54) ⟨(show (i + 1) ≤ 4 from by omega), (show xs2_54.length = n2_54 from g54_l), (show LsA fb2_54 xs2_54 from g54_s), (show xs2_54.Pairwise (· ≤ ·) from g54_o), (show xs2_54.Perm (fm (mtF 1 tk pr) (i + 1) ++ xs) from fm_perm hp_ hFi g54_p), (show ∀ x_ ∈ xs2_54, x_ < 65536 from g54_b)⟩ (show 4 - (i + 1) < 4 - i from by omega)
        ·
          replace c26 := bI_nz c26
          refine x_goto (tgt := 57) C dX5_match_29 (by decide) ?_
          refine x_iinc (pc' := 60) (lv' := [(5, .int (iI ((i : Int) + 1))), (0, .ref k), (1, .int (iI 1)), (2, .int (iI (tk : Int))), (3, .int (iI (pr : Int))), (4, .ref h)]) C 5 dX5_match_57 rfl (by decide) rfl rfl ?_
          refine x_lvI (lv' := [(5, .int (iI ((i + 1 : Nat) : Int))), (0, .ref k), (1, .int (iI 1)), (2, .int (iI (tk : Int))), (3, .int (iI (pr : Int))), (4, .ref h)]) 0 rfl (by omega) rfl ?_
          refine x_goto (tgt := 14) C dX5_match_60 (by decide) ?_
          refine x_lv [1, 2, 3, 4, 5, 0] rfl ?_
          exact ih14 ((i + 1), n1, f1, xs1) ⟨(show (i + 1) ≤ 4 from by omega), (show xs1.length = n1 from hl), (show LsA f1 xs1 from hs), (show xs1.Pairwise (· ≤ ·) from ho), (show xs1.Perm (fm (mtF 1 tk pr) (i + 1) ++ xs) from fm_skip hp_ (by unfold mtF; rw [if_pos c26])), (show ∀ x_ ∈ xs1, x_ < 65536 from hb_)⟩ (show 4 - (i + 1) < 4 - i from by omega)
    · exact ⟨(show 0 ≤ 4 from by omega), (show xs.length = n from hlen), (show LsA fb xs from hls), (show xs.Pairwise (· ≤ ·) from hso), (show xs.Perm (fm (mtF 1 tk pr) 0 ++ xs) from List.Perm.refl _), (show ∀ x_ ∈ xs, x_ < 65536 from hbd)⟩
  ·
    exact absurd c1 (by omega)

set_option maxHeartbeats 4000000 in
set_option maxRecDepth 100000 in
theorem c_X5_match_3 (l : Launch) (E : EV) (k : Nat) (kp : Nat) (s0 : Int) (h : Nat) (hb : Nat) (ha : Nat) (hc : Nat) (sg : Int) (fb : Nat → Int) (n : Nat) (tk : Nat) (pr : Nat) (xs : List Nat) (hcap : (mt tk pr 3).length + xs.length ≤ 2002) (htk : tk < 16) (hpr : pr < 65536) (hlen : xs.length = n) (hls : LsA fb xs) (hso : xs.Pairwise (· ≤ ·)) (hbd : ∀ x_ ∈ xs, x_ < 65536) : MC l E yX5_match cX5_match 6 (none) ({ frames := 4, cells := 0, slots := 0, locals := 97 }) [.ref k, .int (iI 2), .int (iI (tk : Int)), .int (iI (pr : Int)), .ref h] [(k, ob 4 [.ref kp, .int (iI s0)]), (h, ob 7 [.ref hb, .ref ha, .ref hc, .int (iI (n : Int)), .int (iI sg)]), (hb, ia E 2002 fb)] (fun v_ w_ => ∃ (n2 : Nat) (fb2 : Nat → Int) (xs2 : List Nat), v_ = none ∧ w_ = [(k, ob 4 [.ref kp, .int (iI s0)]), (h, ob 7 [.ref hb, .ref ha, .ref hc, .int (iI (n2 : Int)), .int (iI sg)]), (hb, ia E 2002 fb2)] ∧ (xs2.length = n2) ∧ (LsA fb2 xs2) ∧ (xs2.Pairwise (· ≤ ·)) ∧ (xs2.Perm (mt tk pr 3 ++ xs)) ∧ (∀ x_ ∈ xs2, x_ < 65536)) := by
  refine MC.of (by decide +kernel) (Nat.le_of_ble_eq_true rfl) ?_
  intro p_ e_ s_ m_ args_ below_ meth_ c_ A_ C hr hnm
  have C : Cx p_ s_ m_ args_ meth_ c_ E A_ 6 cX5_match RX5 := C
  show Wx _ _ _ _ _ _ _ _ _ _ _ _ _ _ _ _ 0 [(0, .ref k), (1, .int (iI 2)), (2, .int (iI (tk : Int))), (3, .int (iI (pr : Int))), (4, .ref h)] [] [(k, ob 4 [.ref kp, .int (iI s0)]), (h, ob 7 [.ref hb, .ref ha, .ref hc, .int (iI (n : Int)), .int (iI sg)]), (hb, ia E 2002 fb)]
  refine x_iload_n (pc' := 1) C 1 dX5_match_0 rfl rfl ?_
  refine x_if_ge (pc' := 4) (tgt := 11) C dX5_match_1 rfl (by decide) (by omega) (fun c1 => ?_) (fun c1 => ?_)
  ·
    refine x_iconst (pc' := 12) C dX5_match_11 rfl ?_
    refine x_istore (pc' := 14) (lv' := [(5, .int (iI 0)), (0, .ref k), (1, .int (iI 2)), (2, .int (iI (tk : Int))), (3, .int (iI (pr : Int))), (4, .ref h)]) C dX5_match_12 rfl (by decide) rfl ?_
    refine x_lv [1, 2, 3, 4, 5, 0] rfl ?_
    refine x_loop (α := (Nat) × (Nat) × (Nat → Int) × (List Nat)) (fun a_ => (a_.1 ≤ 4) ∧ (a_.2.2.2.length = a_.2.1) ∧ (LsA a_.2.2.1 a_.2.2.2) ∧ (a_.2.2.2.Pairwise (· ≤ ·)) ∧ (a_.2.2.2.Perm (fm (mtF 2 tk pr) a_.1 ++ xs)) ∧ (∀ x_ ∈ a_.2.2.2, x_ < 65536)) (fun a_ => 4 - a_.1) (fun a_ => [(0, .ref k), (1, .int (iI 2)), (2, .int (iI (tk : Int))), (3, .int (iI (pr : Int))), (4, .ref h), (5, .int (iI (a_.1 : Int)))]) (fun a_ => [(k, ob 4 [.ref kp, .int (iI s0)]), (h, ob 7 [.ref hb, .ref ha, .ref hc, .int (iI (a_.2.1 : Int)), .int (iI sg)]), (hb, ia E 2002 a_.2.2.1)]) ?_ (0, n, fb, xs) ?_
    · intro a_ hI_ ih14
      obtain ⟨i, n1, f1, xs1⟩ := a_
      obtain ⟨hi, hl, hs, ho, hp_, hb_⟩ := hI_
      replace hi : i ≤ 4 := hi
      replace hl : xs1.length = n1 := hl
      replace hs : LsA f1 xs1 := hs
      replace ho : xs1.Pairwise (· ≤ ·) := ho
      replace hp_ : xs1.Perm (fm (mtF 2 tk pr) i ++ xs) := hp_
      replace hb_ : ∀ x_ ∈ xs1, x_ < 65536 := hb_
      show Wx _ _ _ _ _ _ _ _ _ _ _ _ _ _ _ _ 14 [(0, .ref k), (1, .int (iI 2)), (2, .int (iI (tk : Int))), (3, .int (iI (pr : Int))), (4, .ref h), (5, .int (iI (i : Int)))] [] [(k, ob 4 [.ref kp, .int (iI s0)]), (h, ob 7 [.ref hb, .ref ha, .ref hc, .int (iI (n1 : Int)), .int (iI sg)]), (hb, ia E 2002 f1)]
      refine x_iload (pc' := 16) C 5 dX5_match_14 rfl rfl ?_
      refine x_iconst (pc' := 17) C dX5_match_16 rfl ?_
      refine x_icmp_ge (pc' := 20) (tgt := 63) C dX5_match_17 rfl (by decide) (by omega) (by omega) (fun c17 => ?_) (fun c17 => ?_)
      ·
        exact x_vret C hr dX5_match_63 ⟨n1, f1, xs1, rfl, rfl, (show xs1.length = n1 from hl), (show LsA f1 xs1 from hs), (show xs1.Pairwise (· ≤ ·) from ho), (show xs1.Perm (mt tk pr 3 ++ xs) from by have e_ : i = 4 := (by omega); subst e_; exact hp_), (show ∀ x_ ∈ xs1, x_ < 65536 from hb_)⟩
      ·
        refine x_iload_n (pc' := 21) C 2 dX5_match_20 rfl rfl ?_
        refine x_iload (pc' := 23) C 5 dX5_match_21 rfl rfl ?_
        refine x_callN (pc' := 26) (As := [.int (iI (tk : Int)), .int (iI (i : Int))]) (rest := []) C cn_X5_27 dX5_match_23 rfl (c_X11_holds l E tk i (show tk < 2147483648 from by omega) (show i < 32 from by omega)) mm_X11_holds (hstk := rfl) (hlen := rfl) (hcat := Nat.le_of_ble_eq_true rfl) (isC := []) (isR := [0, 1, 2]) (wr := [(k, ob 4 [.ref kp, .int (iI s0)]), (h, ob 7 [.ref hb, .ref ha, .ref hc, .int (iI (n1 : Int)), .int (iI sg)]), (hb, ia E 2002 f1)]) (hC := rfl) (hR := rfl) (hnC := rfl) (hn := rfl) (hdis := by decide) (hR1 := ⟨Nat.le_of_ble_eq_true rfl, Nat.le_of_ble_eq_true rfl⟩) (hcs := ⟨Nat.le_of_ble_eq_true rfl, Nat.le_of_ble_eq_true rfl⟩) (fun v_ w_ hp_ => ?_)
        obtain ⟨rfl, rfl⟩ := hp_
        show Wx _ _ _ _ _ _ _ _ _ _ _ _ _ _ _ _ 26 [(0, .ref k), (1, .int (iI 2)), (2, .int (iI (tk : Int))), (3, .int (iI (pr : Int))), (4, .ref h), (5, .int (iI (i : Int)))] [.int (iI (bI (tk.testBit i = true)))] [(k, ob 4 [.ref kp, .int (iI s0)]), (h, ob 7 [.ref hb, .ref ha, .ref hc, .int (iI (n1 : Int)), .int (iI sg)]), (hb, ia E 2002 f1)]
        refine x_if_eq (pc' := 29) (tgt := 32) C dX5_match_26 rfl (by decide) (bI_rng) (fun c26 => ?_) (fun c26 => ?_)
        ·
          replace c26 := bI_z c26
          have hFi : (mtF 2 tk pr) i = mt (tk ||| 2 ^ i) (pr ||| 2 ^ (4 * 2 + i)) 2 := by unfold mtF; rw [if_neg c26]
          have hcx := fm_cap hp_ (show i < 4 by omega) hcap
          rw [hFi] at hcx
          refine x_aload_n (pc' := 33) C 0 dX5_match_32 rfl rfl ?_
          refine x_iload_n (pc' := 34) C 1 dX5_match_33 rfl rfl ?_
          refine x_iconst (pc' := 35) C dX5_match_34 rfl ?_
          refine x_isub (pc' := 36) C dX5_match_35 rfl ?_
          refine x_top (b := .int (iI 1)) (rfl) ?_
          refine x_iload_n (pc' := 37) C 2 dX5_match_36 rfl rfl ?_
          refine x_iconst (pc' := 38) C dX5_match_37 rfl ?_
          refine x_iload (pc' := 40) C 5 dX5_match_38 rfl rfl ?_
          refine x_ishl (pc' := 41) (z := (iI ((2 ^ i : Nat) : Int))) C dX5_match_40 rfl (bt_shl (by omega)) ?_
          refine x_ior (pc' := 42) (z := (iI ((tk ||| 2 ^ i : Nat) : Int))) C dX5_match_41 rfl (bt_or _ _) ?_
          refine x_iload_n (pc' := 43) C 3 dX5_match_42 rfl rfl ?_
          refine x_iconst (pc' := 44) C dX5_match_43 rfl ?_
          refine x_iconst (pc' := 45) C dX5_match_44 rfl ?_
          refine x_iload_n (pc' := 46) C 1 dX5_match_45 rfl rfl ?_
          refine x_imul (pc' := 47) C dX5_match_46 rfl ?_
          refine x_iload (pc' := 49) C 5 dX5_match_47 rfl rfl ?_
          refine x_iadd (pc' := 50) C dX5_match_49 rfl ?_
          refine x_top (b := .int (iI ((4 * 2 + i : Nat) : Int))) (rfl) ?_
          refine x_ishl (pc' := 51) (z := (iI ((2 ^ (4 * 2 + i) : Nat) : Int))) C dX5_match_50 rfl (bt_shl (by omega)) ?_
          refine x_ior (pc' := 52) (z := (iI ((pr ||| 2 ^ (4 * 2 + i) : Nat) : Int))) C dX5_match_51 rfl (bt_or _ _) ?_
          refine x_aload (pc' := 54) C 4 dX5_match_52 rfl rfl ?_
          refine x_callV (pc' := 57) (As := [.int (iI 1), .int (iI ((tk ||| 2 ^ i : Nat) : Int)), .int (iI ((pr ||| 2 ^ (4 * 2 + i) : Nat) : Int)), .ref h]) (rest := []) (q0 := 0) C rfl rfl cv_X5_15_X5 dX5_match_54 rfl (c_X5_match_2 l E k kp s0 h hb ha hc sg f1 n1 (tk ||| 2 ^ i) (pr ||| 2 ^ (4 * 2 + i)) xs1 (show (mt (tk ||| 2 ^ i) (pr ||| 2 ^ (4 * 2 + i)) 2).length + xs1.length ≤ 2002 from hcx) (show (tk ||| 2 ^ i) < 16 from or_bd (N := 4) htk (by omega)) (show (pr ||| 2 ^ (4 * 2 + i)) < 65536 from or_bd (N := 16) hpr (by omega)) (show xs1.length = n1 from hl) (show LsA f1 xs1 from hs) (show xs1.Pairwise (· ≤ ·) from ho) (show ∀ x_ ∈ xs1, x_ < 65536 from hb_)) mm_X5_match (hstk := rfl) (hlen := rfl) (hcat := Nat.le_of_ble_eq_true rfl) (isC := [0, 1, 2]) (isR := []) (wr := []) (hC := rfl) (hR := rfl) (hnC := rfl) (hn := rfl) (hdis := by decide) (hR1 := ⟨Nat.le_of_ble_eq_true rfl, Nat.le_of_ble_eq_true rfl⟩) (hcs := ⟨Nat.le_of_ble_eq_true rfl, Nat.le_of_ble_eq_true rfl⟩) (fun v_ w_ hp_ => ?_)
          obtain ⟨n2_54, fb2_54, xs2_54, rfl, rfl, g54_l, g54_s, g54_o, g54_p, g54_b⟩ := hp_
          replace g54_l : xs2_54.length = n2_54 := g54_l
          replace g54_s : LsA fb2_54 xs2_54 := g54_s
          replace g54_o : xs2_54.Pairwise (· ≤ ·) := g54_o
          replace g54_p : xs2_54.Perm (mt (tk ||| 2 ^ i) (pr ||| 2 ^ (4 * 2 + i)) 2 ++ xs1) := g54_p
          replace g54_b : ∀ x_ ∈ xs2_54, x_ < 65536 := g54_b
          show Wx _ _ _ _ _ _ _ _ _ _ _ _ _ _ _ _ 57 [(0, .ref k), (1, .int (iI 2)), (2, .int (iI (tk : Int))), (3, .int (iI (pr : Int))), (4, .ref h), (5, .int (iI (i : Int)))] [] [(k, ob 4 [.ref kp, .int (iI s0)]), (h, ob 7 [.ref hb, .ref ha, .ref hc, .int (iI (n2_54 : Int)), .int (iI sg)]), (hb, ia E 2002 fb2_54)]
          refine x_iinc (pc' := 60) (lv' := [(5, .int (iI ((i : Int) + 1))), (0, .ref k), (1, .int (iI 2)), (2, .int (iI (tk : Int))), (3, .int (iI (pr : Int))), (4, .ref h)]) C 5 dX5_match_57 rfl (by decide) rfl rfl ?_
          refine x_lvI (lv' := [(5, .int (iI ((i + 1 : Nat) : Int))), (0, .ref k), (1, .int (iI 2)), (2, .int (iI (tk : Int))), (3, .int (iI (pr : Int))), (4, .ref h)]) 0 rfl (by omega) rfl ?_
          refine x_goto (tgt := 14) C dX5_match_60 (by decide) ?_
          refine x_lv [1, 2, 3, 4, 5, 0] rfl ?_
          exact ih14 ((i + 1), n2_54, fb2_54, xs2_54) ⟨(show (i + 1) ≤ 4 from by omega), (show xs2_54.length = n2_54 from g54_l), (show LsA fb2_54 xs2_54 from g54_s), (show xs2_54.Pairwise (· ≤ ·) from g54_o), (show xs2_54.Perm (fm (mtF 2 tk pr) (i + 1) ++ xs) from fm_perm hp_ hFi g54_p), (show ∀ x_ ∈ xs2_54, x_ < 65536 from g54_b)⟩ (show 4 - (i + 1) < 4 - i from by omega)
        ·
          replace c26 := bI_nz c26
          refine x_goto (tgt := 57) C dX5_match_29 (by decide) ?_
          refine x_iinc (pc' := 60) (lv' := [(5, .int (iI ((i : Int) + 1))), (0, .ref k), (1, .int (iI 2)), (2, .int (iI (tk : Int))), (3, .int (iI (pr : Int))), (4, .ref h)]) C 5 dX5_match_57 rfl (by decide) rfl rfl ?_
          refine x_lvI (lv' := [(5, .int (iI ((i + 1 : Nat) : Int))), (0, .ref k), (1, .int (iI 2)), (2, .int (iI (tk : Int))), (3, .int (iI (pr : Int))), (4, .ref h)]) 0 rfl (by omega) rfl ?_
          refine x_goto (tgt := 14) C dX5_match_60 (by decide) ?_
          refine x_lv [1, 2, 3, 4, 5, 0] rfl ?_
          exact ih14 ((i + 1), n1, f1, xs1) ⟨(show (i + 1) ≤ 4 from by omega), (show xs1.length = n1 from hl), (show LsA f1 xs1 from hs), (show xs1.Pairwise (· ≤ ·) from ho), (show xs1.Perm (fm (mtF 2 tk pr) (i + 1) ++ xs) from fm_skip hp_ (by unfold mtF; rw [if_pos c26])), (show ∀ x_ ∈ xs1, x_ < 65536 from hb_)⟩ (show 4 - (i + 1) < 4 - i from by omega)
    · exact ⟨(show 0 ≤ 4 from by omega), (show xs.length = n from hlen), (show LsA fb xs from hls), (show xs.Pairwise (· ≤ ·) from hso), (show xs.Perm (fm (mtF 2 tk pr) 0 ++ xs) from List.Perm.refl _), (show ∀ x_ ∈ xs, x_ < 65536 from hbd)⟩
  ·
    exact absurd c1 (by omega)

set_option maxHeartbeats 4000000 in
set_option maxRecDepth 100000 in
theorem c_X5_match_4 (l : Launch) (E : EV) (k : Nat) (kp : Nat) (s0 : Int) (h : Nat) (hb : Nat) (ha : Nat) (hc : Nat) (sg : Int) (fb : Nat → Int) (n : Nat) (tk : Nat) (pr : Nat) (xs : List Nat) (hcap : (mt tk pr 4).length + xs.length ≤ 2002) (htk : tk < 16) (hpr : pr < 65536) (hlen : xs.length = n) (hls : LsA fb xs) (hso : xs.Pairwise (· ≤ ·)) (hbd : ∀ x_ ∈ xs, x_ < 65536) : MC l E yX5_match cX5_match 6 (none) ({ frames := 5, cells := 0, slots := 0, locals := 122 }) [.ref k, .int (iI 3), .int (iI (tk : Int)), .int (iI (pr : Int)), .ref h] [(k, ob 4 [.ref kp, .int (iI s0)]), (h, ob 7 [.ref hb, .ref ha, .ref hc, .int (iI (n : Int)), .int (iI sg)]), (hb, ia E 2002 fb)] (fun v_ w_ => ∃ (n2 : Nat) (fb2 : Nat → Int) (xs2 : List Nat), v_ = none ∧ w_ = [(k, ob 4 [.ref kp, .int (iI s0)]), (h, ob 7 [.ref hb, .ref ha, .ref hc, .int (iI (n2 : Int)), .int (iI sg)]), (hb, ia E 2002 fb2)] ∧ (xs2.length = n2) ∧ (LsA fb2 xs2) ∧ (xs2.Pairwise (· ≤ ·)) ∧ (xs2.Perm (mt tk pr 4 ++ xs)) ∧ (∀ x_ ∈ xs2, x_ < 65536)) := by
  refine MC.of (by decide +kernel) (Nat.le_of_ble_eq_true rfl) ?_
  intro p_ e_ s_ m_ args_ below_ meth_ c_ A_ C hr hnm
  have C : Cx p_ s_ m_ args_ meth_ c_ E A_ 6 cX5_match RX5 := C
  show Wx _ _ _ _ _ _ _ _ _ _ _ _ _ _ _ _ 0 [(0, .ref k), (1, .int (iI 3)), (2, .int (iI (tk : Int))), (3, .int (iI (pr : Int))), (4, .ref h)] [] [(k, ob 4 [.ref kp, .int (iI s0)]), (h, ob 7 [.ref hb, .ref ha, .ref hc, .int (iI (n : Int)), .int (iI sg)]), (hb, ia E 2002 fb)]
  refine x_iload_n (pc' := 1) C 1 dX5_match_0 rfl rfl ?_
  refine x_if_ge (pc' := 4) (tgt := 11) C dX5_match_1 rfl (by decide) (by omega) (fun c1 => ?_) (fun c1 => ?_)
  ·
    refine x_iconst (pc' := 12) C dX5_match_11 rfl ?_
    refine x_istore (pc' := 14) (lv' := [(5, .int (iI 0)), (0, .ref k), (1, .int (iI 3)), (2, .int (iI (tk : Int))), (3, .int (iI (pr : Int))), (4, .ref h)]) C dX5_match_12 rfl (by decide) rfl ?_
    refine x_lv [1, 2, 3, 4, 5, 0] rfl ?_
    refine x_loop (α := (Nat) × (Nat) × (Nat → Int) × (List Nat)) (fun a_ => (a_.1 ≤ 4) ∧ (a_.2.2.2.length = a_.2.1) ∧ (LsA a_.2.2.1 a_.2.2.2) ∧ (a_.2.2.2.Pairwise (· ≤ ·)) ∧ (a_.2.2.2.Perm (fm (mtF 3 tk pr) a_.1 ++ xs)) ∧ (∀ x_ ∈ a_.2.2.2, x_ < 65536)) (fun a_ => 4 - a_.1) (fun a_ => [(0, .ref k), (1, .int (iI 3)), (2, .int (iI (tk : Int))), (3, .int (iI (pr : Int))), (4, .ref h), (5, .int (iI (a_.1 : Int)))]) (fun a_ => [(k, ob 4 [.ref kp, .int (iI s0)]), (h, ob 7 [.ref hb, .ref ha, .ref hc, .int (iI (a_.2.1 : Int)), .int (iI sg)]), (hb, ia E 2002 a_.2.2.1)]) ?_ (0, n, fb, xs) ?_
    · intro a_ hI_ ih14
      obtain ⟨i, n1, f1, xs1⟩ := a_
      obtain ⟨hi, hl, hs, ho, hp_, hb_⟩ := hI_
      replace hi : i ≤ 4 := hi
      replace hl : xs1.length = n1 := hl
      replace hs : LsA f1 xs1 := hs
      replace ho : xs1.Pairwise (· ≤ ·) := ho
      replace hp_ : xs1.Perm (fm (mtF 3 tk pr) i ++ xs) := hp_
      replace hb_ : ∀ x_ ∈ xs1, x_ < 65536 := hb_
      show Wx _ _ _ _ _ _ _ _ _ _ _ _ _ _ _ _ 14 [(0, .ref k), (1, .int (iI 3)), (2, .int (iI (tk : Int))), (3, .int (iI (pr : Int))), (4, .ref h), (5, .int (iI (i : Int)))] [] [(k, ob 4 [.ref kp, .int (iI s0)]), (h, ob 7 [.ref hb, .ref ha, .ref hc, .int (iI (n1 : Int)), .int (iI sg)]), (hb, ia E 2002 f1)]
      refine x_iload (pc' := 16) C 5 dX5_match_14 rfl rfl ?_
      refine x_iconst (pc' := 17) C dX5_match_16 rfl ?_
      refine x_icmp_ge (pc' := 20) (tgt := 63) C dX5_match_17 rfl (by decide) (by omega) (by omega) (fun c17 => ?_) (fun c17 => ?_)
      ·
        exact x_vret C hr dX5_match_63 ⟨n1, f1, xs1, rfl, rfl, (show xs1.length = n1 from hl), (show LsA f1 xs1 from hs), (show xs1.Pairwise (· ≤ ·) from ho), (show xs1.Perm (mt tk pr 4 ++ xs) from by have e_ : i = 4 := (by omega); subst e_; exact hp_), (show ∀ x_ ∈ xs1, x_ < 65536 from hb_)⟩
      ·
        refine x_iload_n (pc' := 21) C 2 dX5_match_20 rfl rfl ?_
        refine x_iload (pc' := 23) C 5 dX5_match_21 rfl rfl ?_
        refine x_callN (pc' := 26) (As := [.int (iI (tk : Int)), .int (iI (i : Int))]) (rest := []) C cn_X5_27 dX5_match_23 rfl (c_X11_holds l E tk i (show tk < 2147483648 from by omega) (show i < 32 from by omega)) mm_X11_holds (hstk := rfl) (hlen := rfl) (hcat := Nat.le_of_ble_eq_true rfl) (isC := []) (isR := [0, 1, 2]) (wr := [(k, ob 4 [.ref kp, .int (iI s0)]), (h, ob 7 [.ref hb, .ref ha, .ref hc, .int (iI (n1 : Int)), .int (iI sg)]), (hb, ia E 2002 f1)]) (hC := rfl) (hR := rfl) (hnC := rfl) (hn := rfl) (hdis := by decide) (hR1 := ⟨Nat.le_of_ble_eq_true rfl, Nat.le_of_ble_eq_true rfl⟩) (hcs := ⟨Nat.le_of_ble_eq_true rfl, Nat.le_of_ble_eq_true rfl⟩) (fun v_ w_ hp_ => ?_)
        obtain ⟨rfl, rfl⟩ := hp_
        show Wx _ _ _ _ _ _ _ _ _ _ _ _ _ _ _ _ 26 [(0, .ref k), (1, .int (iI 3)), (2, .int (iI (tk : Int))), (3, .int (iI (pr : Int))), (4, .ref h), (5, .int (iI (i : Int)))] [.int (iI (bI (tk.testBit i = true)))] [(k, ob 4 [.ref kp, .int (iI s0)]), (h, ob 7 [.ref hb, .ref ha, .ref hc, .int (iI (n1 : Int)), .int (iI sg)]), (hb, ia E 2002 f1)]
        refine x_if_eq (pc' := 29) (tgt := 32) C dX5_match_26 rfl (by decide) (bI_rng) (fun c26 => ?_) (fun c26 => ?_)
        ·
          replace c26 := bI_z c26
          have hFi : (mtF 3 tk pr) i = mt (tk ||| 2 ^ i) (pr ||| 2 ^ (4 * 3 + i)) 3 := by unfold mtF; rw [if_neg c26]
          have hcx := fm_cap hp_ (show i < 4 by omega) hcap
          rw [hFi] at hcx
          refine x_aload_n (pc' := 33) C 0 dX5_match_32 rfl rfl ?_
          refine x_iload_n (pc' := 34) C 1 dX5_match_33 rfl rfl ?_
          refine x_iconst (pc' := 35) C dX5_match_34 rfl ?_
          refine x_isub (pc' := 36) C dX5_match_35 rfl ?_
          refine x_top (b := .int (iI 2)) (rfl) ?_
          refine x_iload_n (pc' := 37) C 2 dX5_match_36 rfl rfl ?_
          refine x_iconst (pc' := 38) C dX5_match_37 rfl ?_
          refine x_iload (pc' := 40) C 5 dX5_match_38 rfl rfl ?_
          refine x_ishl (pc' := 41) (z := (iI ((2 ^ i : Nat) : Int))) C dX5_match_40 rfl (bt_shl (by omega)) ?_
          refine x_ior (pc' := 42) (z := (iI ((tk ||| 2 ^ i : Nat) : Int))) C dX5_match_41 rfl (bt_or _ _) ?_
          refine x_iload_n (pc' := 43) C 3 dX5_match_42 rfl rfl ?_
          refine x_iconst (pc' := 44) C dX5_match_43 rfl ?_
          refine x_iconst (pc' := 45) C dX5_match_44 rfl ?_
          refine x_iload_n (pc' := 46) C 1 dX5_match_45 rfl rfl ?_
          refine x_imul (pc' := 47) C dX5_match_46 rfl ?_
          refine x_iload (pc' := 49) C 5 dX5_match_47 rfl rfl ?_
          refine x_iadd (pc' := 50) C dX5_match_49 rfl ?_
          refine x_top (b := .int (iI ((4 * 3 + i : Nat) : Int))) (rfl) ?_
          refine x_ishl (pc' := 51) (z := (iI ((2 ^ (4 * 3 + i) : Nat) : Int))) C dX5_match_50 rfl (bt_shl (by omega)) ?_
          refine x_ior (pc' := 52) (z := (iI ((pr ||| 2 ^ (4 * 3 + i) : Nat) : Int))) C dX5_match_51 rfl (bt_or _ _) ?_
          refine x_aload (pc' := 54) C 4 dX5_match_52 rfl rfl ?_
          refine x_callV (pc' := 57) (As := [.int (iI 2), .int (iI ((tk ||| 2 ^ i : Nat) : Int)), .int (iI ((pr ||| 2 ^ (4 * 3 + i) : Nat) : Int)), .ref h]) (rest := []) (q0 := 0) C rfl rfl cv_X5_15_X5 dX5_match_54 rfl (c_X5_match_3 l E k kp s0 h hb ha hc sg f1 n1 (tk ||| 2 ^ i) (pr ||| 2 ^ (4 * 3 + i)) xs1 (show (mt (tk ||| 2 ^ i) (pr ||| 2 ^ (4 * 3 + i)) 3).length + xs1.length ≤ 2002 from hcx) (show (tk ||| 2 ^ i) < 16 from or_bd (N := 4) htk (by omega)) (show (pr ||| 2 ^ (4 * 3 + i)) < 65536 from or_bd (N := 16) hpr (by omega)) (show xs1.length = n1 from hl) (show LsA f1 xs1 from hs) (show xs1.Pairwise (· ≤ ·) from ho) (show ∀ x_ ∈ xs1, x_ < 65536 from hb_)) mm_X5_match (hstk := rfl) (hlen := rfl) (hcat := Nat.le_of_ble_eq_true rfl) (isC := [0, 1, 2]) (isR := []) (wr := []) (hC := rfl) (hR := rfl) (hnC := rfl) (hn := rfl) (hdis := by decide) (hR1 := ⟨Nat.le_of_ble_eq_true rfl, Nat.le_of_ble_eq_true rfl⟩) (hcs := ⟨Nat.le_of_ble_eq_true rfl, Nat.le_of_ble_eq_true rfl⟩) (fun v_ w_ hp_ => ?_)
          obtain ⟨n2_54, fb2_54, xs2_54, rfl, rfl, g54_l, g54_s, g54_o, g54_p, g54_b⟩ := hp_
          replace g54_l : xs2_54.length = n2_54 := g54_l
          replace g54_s : LsA fb2_54 xs2_54 := g54_s
          replace g54_o : xs2_54.Pairwise (· ≤ ·) := g54_o
          replace g54_p : xs2_54.Perm (mt (tk ||| 2 ^ i) (pr ||| 2 ^ (4 * 3 + i)) 3 ++ xs1) := g54_p
          replace g54_b : ∀ x_ ∈ xs2_54, x_ < 65536 := g54_b
          show Wx _ _ _ _ _ _ _ _ _ _ _ _ _ _ _ _ 57 [(0, .ref k), (1, .int (iI 3)), (2, .int (iI (tk : Int))), (3, .int (iI (pr : Int))), (4, .ref h), (5, .int (iI (i : Int)))] [] [(k, ob 4 [.ref kp, .int (iI s0)]), (h, ob 7 [.ref hb, .ref ha, .ref hc, .int (iI (n2_54 : Int)), .int (iI sg)]), (hb, ia E 2002 fb2_54)]
          refine x_iinc (pc' := 60) (lv' := [(5, .int (iI ((i : Int) + 1))), (0, .ref k), (1, .int (iI 3)), (2, .int (iI (tk : Int))), (3, .int (iI (pr : Int))), (4, .ref h)]) C 5 dX5_match_57 rfl (by decide) rfl rfl ?_
          refine x_lvI (lv' := [(5, .int (iI ((i + 1 : Nat) : Int))), (0, .ref k), (1, .int (iI 3)), (2, .int (iI (tk : Int))), (3, .int (iI (pr : Int))), (4, .ref h)]) 0 rfl (by omega) rfl ?_
          refine x_goto (tgt := 14) C dX5_match_60 (by decide) ?_
          refine x_lv [1, 2, 3, 4, 5, 0] rfl ?_
          exact ih14 ((i + 1), n2_54, fb2_54, xs2_54) ⟨(show (i + 1) ≤ 4 from by omega), (show xs2_54.length = n2_54 from g54_l), (show LsA fb2_54 xs2_54 from g54_s), (show xs2_54.Pairwise (· ≤ ·) from g54_o), (show xs2_54.Perm (fm (mtF 3 tk pr) (i + 1) ++ xs) from fm_perm hp_ hFi g54_p), (show ∀ x_ ∈ xs2_54, x_ < 65536 from g54_b)⟩ (show 4 - (i + 1) < 4 - i from by omega)
        ·
          replace c26 := bI_nz c26
          refine x_goto (tgt := 57) C dX5_match_29 (by decide) ?_
          refine x_iinc (pc' := 60) (lv' := [(5, .int (iI ((i : Int) + 1))), (0, .ref k), (1, .int (iI 3)), (2, .int (iI (tk : Int))), (3, .int (iI (pr : Int))), (4, .ref h)]) C 5 dX5_match_57 rfl (by decide) rfl rfl ?_
          refine x_lvI (lv' := [(5, .int (iI ((i + 1 : Nat) : Int))), (0, .ref k), (1, .int (iI 3)), (2, .int (iI (tk : Int))), (3, .int (iI (pr : Int))), (4, .ref h)]) 0 rfl (by omega) rfl ?_
          refine x_goto (tgt := 14) C dX5_match_60 (by decide) ?_
          refine x_lv [1, 2, 3, 4, 5, 0] rfl ?_
          exact ih14 ((i + 1), n1, f1, xs1) ⟨(show (i + 1) ≤ 4 from by omega), (show xs1.length = n1 from hl), (show LsA f1 xs1 from hs), (show xs1.Pairwise (· ≤ ·) from ho), (show xs1.Perm (fm (mtF 3 tk pr) (i + 1) ++ xs) from fm_skip hp_ (by unfold mtF; rw [if_pos c26])), (show ∀ x_ ∈ xs1, x_ < 65536 from hb_)⟩ (show 4 - (i + 1) < 4 - i from by omega)
    · exact ⟨(show 0 ≤ 4 from by omega), (show xs.length = n from hlen), (show LsA fb xs from hls), (show xs.Pairwise (· ≤ ·) from hso), (show xs.Perm (fm (mtF 3 tk pr) 0 ++ xs) from List.Perm.refl _), (show ∀ x_ ∈ xs, x_ < 65536 from hbd)⟩
  ·
    exact absurd c1 (by omega)

set_option maxHeartbeats 4000000 in
set_option maxRecDepth 100000 in
theorem c_X5_listPlans (l : Launch) (E : EV) (k : Nat) (kp : Nat) (s0 : Int) (h : Nat) (hb : Nat) (ha : Nat) (hc : Nat) (sg : Int) (fb : Nat → Int)  : MC l E yX5_listPlans cX5_listPlans 2 (none) ({ frames := 6, cells := 0, slots := 0, locals := 147 }) [.ref k, .ref h] [(k, ob 4 [.ref kp, .int (iI s0)]), (h, ob 7 [.ref hb, .ref ha, .ref hc, .int (iI 0), .int (iI sg)]), (hb, ia E 2002 fb)] (fun v_ w_ => ∃ (n2 : Nat) (fb2 : Nat → Int) (xs2 : List Nat), v_ = none ∧ w_ = [(k, ob 4 [.ref kp, .int (iI s0)]), (h, ob 7 [.ref hb, .ref ha, .ref hc, .int (iI (n2 : Int)), .int (iI sg)]), (hb, ia E 2002 fb2)] ∧ (xs2.length = n2) ∧ (LsA fb2 xs2) ∧ (xs2.Pairwise (· ≤ ·)) ∧ (xs2.Perm (mt 0 0 4 ++ [])) ∧ (∀ x_ ∈ xs2, x_ < 65536)) := by
  refine MC.of (by decide +kernel) (Nat.le_of_ble_eq_true rfl) ?_
  intro p_ e_ s_ m_ args_ below_ meth_ c_ A_ C hr hnm
  have C : Cx p_ s_ m_ args_ meth_ c_ E A_ 2 cX5_listPlans RX5 := C
  show Wx _ _ _ _ _ _ _ _ _ _ _ _ _ _ _ _ 0 [(0, .ref k), (1, .ref h)] [] [(k, ob 4 [.ref kp, .int (iI s0)]), (h, ob 7 [.ref hb, .ref ha, .ref hc, .int (iI 0), .int (iI sg)]), (hb, ia E 2002 fb)]
  refine x_aload_n (pc' := 1) C 0 dX5_listPlans_0 rfl rfl ?_
  refine x_iconst (pc' := 2) C dX5_listPlans_1 rfl ?_
  refine x_iconst (pc' := 3) C dX5_listPlans_2 rfl ?_
  refine x_iconst (pc' := 4) C dX5_listPlans_3 rfl ?_
  refine x_aload_n (pc' := 5) C 1 dX5_listPlans_4 rfl rfl ?_
  refine x_callV (pc' := 8) (As := [.int (iI 3), .int (iI 0), .int (iI 0), .ref h]) (rest := []) (q0 := 0) C rfl rfl cv_X5_15_X5 dX5_listPlans_5 rfl (c_X5_match_4 l E k kp s0 h hb ha hc sg fb 0 0 0 ([]) (show (mt 0 0 4).length + ([]).length ≤ 2002 from by decide +kernel) (show 0 < 16 from by omega) (show 0 < 65536 from by omega) (show ([]).length = 0 from rfl) (show LsA fb ([]) from LsA.nil) (show ([]).Pairwise (· ≤ ·) from List.Pairwise.nil) (show ∀ x_ ∈ ([]), x_ < 65536 from fun x_ hx_ => absurd hx_ List.not_mem_nil)) mm_X5_match (hstk := rfl) (hlen := rfl) (hcat := Nat.le_of_ble_eq_true rfl) (isC := [0, 1, 2]) (isR := []) (wr := []) (hC := rfl) (hR := rfl) (hnC := rfl) (hn := rfl) (hdis := by decide) (hR1 := ⟨Nat.le_of_ble_eq_true rfl, Nat.le_of_ble_eq_true rfl⟩) (hcs := ⟨Nat.le_of_ble_eq_true rfl, Nat.le_of_ble_eq_true rfl⟩) (fun v_ w_ hp_ => ?_)
  obtain ⟨n2_5, fb2_5, xs2_5, rfl, rfl, g5_l, g5_s, g5_o, g5_p, g5_b⟩ := hp_
  replace g5_l : xs2_5.length = n2_5 := g5_l
  replace g5_s : LsA fb2_5 xs2_5 := g5_s
  replace g5_o : xs2_5.Pairwise (· ≤ ·) := g5_o
  replace g5_p : xs2_5.Perm (mt 0 0 4 ++ ([])) := g5_p
  replace g5_b : ∀ x_ ∈ xs2_5, x_ < 65536 := g5_b
  show Wx _ _ _ _ _ _ _ _ _ _ _ _ _ _ _ _ 8 [(0, .ref k), (1, .ref h)] [] [(k, ob 4 [.ref kp, .int (iI s0)]), (h, ob 7 [.ref hb, .ref ha, .ref hc, .int (iI (n2_5 : Int)), .int (iI sg)]), (hb, ia E 2002 fb2_5)]
  exact x_vret C hr dX5_listPlans_8 ⟨n2_5, fb2_5, xs2_5, rfl, rfl, (show xs2_5.length = n2_5 from g5_l), (show LsA fb2_5 xs2_5 from g5_s), (show xs2_5.Pairwise (· ≤ ·) from g5_o), (show xs2_5.Perm (mt 0 0 4 ++ []) from g5_p), (show ∀ x_ ∈ xs2_5, x_ < 65536 from g5_b)⟩
