set_option maxHeartbeats 4000000 in
set_option maxRecDepth 100000 in
theorem c_X4_weightOf (l : Launch) (E : EV) (k : Nat) (kp : Nat) (kw : Nat) (ka_ : Nat) (kb : Nat) (nt : Nat) (s0 : Int) (sp : Int) (w : Nat → Int) (S : Nat) (hnt : nt ≤ 8) (hw : ∀ j_ : Nat, j_ < nt → 1 ≤ w j_ ∧ w j_ ≤ 50) (hsp : 0 ≤ sp ∧ sp ≤ 200) (hS : S < 1000000) : MC l E yX4_weightOf cX4_weightOf 4 (some .int) ({ frames := 1, cells := 0, slots := 0, locals := 21 }) [.ref k, .int (iI (S : Int))] [(k, ob 3 [.ref kp, .int (iI s0), .ref kw, .int (iI sp)]), (kp, ob 5 [.ref ka_, .ref kb, .int (iI (nt : Int))]), (kw, ia E 8 w)] (fun v_ w_ => v_ = some (.int (iI (sumB w S nt))) ∧ w_ = [(k, ob 3 [.ref kp, .int (iI s0), .ref kw, .int (iI sp)]), (kp, ob 5 [.ref ka_, .ref kb, .int (iI (nt : Int))]), (kw, ia E 8 w)]) := by
  refine MC.of (by decide +kernel) (Nat.le_of_ble_eq_true rfl) ?_
  intro p_ e_ s_ m_ args_ below_ meth_ c_ A_ C hr hnm
  have C : Cx p_ s_ m_ args_ meth_ c_ E A_ 4 cX4_weightOf RX4 := C
  show Wx _ _ _ _ _ _ _ _ _ _ _ _ _ _ _ _ 0 [(0, .ref k), (1, .int (iI (S : Int)))] [] [(k, ob 3 [.ref kp, .int (iI s0), .ref kw, .int (iI sp)]), (kp, ob 5 [.ref ka_, .ref kb, .int (iI (nt : Int))]), (kw, ia E 8 w)]
  refine x_iconst (pc' := 1) C dX4_weightOf_0 rfl ?_
  refine x_istore_n (pc' := 2) (lv' := [(2, .int (iI 0)), (0, .ref k), (1, .int (iI (S : Int)))]) C dX4_weightOf_1 rfl (by decide) rfl ?_
  refine x_iconst (pc' := 3) C dX4_weightOf_2 rfl ?_
  refine x_istore_n (pc' := 4) (lv' := [(3, .int (iI 0)), (2, .int (iI 0)), (0, .ref k), (1, .int (iI (S : Int)))]) C dX4_weightOf_3 rfl (by decide) rfl ?_
  refine x_lv [2, 3, 1, 0] rfl ?_
  refine x_loop (α := (Nat) × (Int)) (fun a_ => (a_.1 ≤ nt) ∧ (a_.2 = sumB w S a_.1)) (fun a_ => nt - a_.1) (fun a_ => [(0, .ref k), (1, .int (iI (S : Int))), (2, .int (iI a_.2)), (3, .int (iI (a_.1 : Int)))]) (fun a_ => [(k, ob 3 [.ref kp, .int (iI s0), .ref kw, .int (iI sp)]), (kp, ob 5 [.ref ka_, .ref kb, .int (iI (nt : Int))]), (kw, ia E 8 w)]) ?_ (0, 0) ?_
  · intro a_ hI_ ih4
    obtain ⟨i, z⟩ := a_
    obtain ⟨hi, hz⟩ := hI_
    replace hi : i ≤ nt := hi
    replace hz : z = sumB w S i := hz
    show Wx _ _ _ _ _ _ _ _ _ _ _ _ _ _ _ _ 4 [(0, .ref k), (1, .int (iI (S : Int))), (2, .int (iI z)), (3, .int (iI (i : Int)))] [] [(k, ob 3 [.ref kp, .int (iI s0), .ref kw, .int (iI sp)]), (kp, ob 5 [.ref ka_, .ref kb, .int (iI (nt : Int))]), (kw, ia E 8 w)]
    refine x_iload_n (pc' := 5) C 3 dX4_weightOf_4 rfl rfl ?_
    refine x_aload_n (pc' := 6) C 0 dX4_weightOf_5 rfl rfl ?_
    refine x_get (pc' := 9) C dX4_weightOf_6 rfl ff_X4_24_3 0 rfl rfl ?_
    refine x_get (pc' := 12) C dX4_weightOf_9 rfl ff_X4_32_5 1 rfl rfl ?_
    refine x_icmp_ge (pc' := 15) (tgt := 38) C dX4_weightOf_12 rfl (by decide) (by omega) (by omega) (fun c12 => ?_) (fun c12 => ?_)
    ·
      refine x_iload_n (pc' := 39) C 2 dX4_weightOf_38 rfl rfl ?_
      refine x_top (b := .int (iI (sumB w S nt))) (by rw [hz, show i = nt by omega]) ?_
      exact x_iret C hr dX4_weightOf_39 ⟨rfl, rfl⟩
    ·
      refine x_iload_n (pc' := 16) C 1 dX4_weightOf_15 rfl rfl ?_
      refine x_iload_n (pc' := 17) C 3 dX4_weightOf_16 rfl rfl ?_
      refine x_callN (pc' := 20) (As := [.int (iI (S : Int)), .int (iI (i : Int))]) (rest := []) C cn_X4_52 dX4_weightOf_17 rfl (c_X11_holds l E S i (show S < 2147483648 from by omega) (show i < 32 from by omega)) mm_X11_holds (hstk := rfl) (hlen := rfl) (hcat := Nat.le_of_ble_eq_true rfl) (isC := []) (isR := [0, 1, 2]) (wr := [(k, ob 3 [.ref kp, .int (iI s0), .ref kw, .int (iI sp)]), (kp, ob 5 [.ref ka_, .ref kb, .int (iI (nt : Int))]), (kw, ia E 8 w)]) (hC := rfl) (hR := rfl) (hnC := rfl) (hn := rfl) (hdis := by decide) (hR1 := ⟨Nat.le_of_ble_eq_true rfl, Nat.le_of_ble_eq_true rfl⟩) (hcs := ⟨Nat.le_of_ble_eq_true rfl, Nat.le_of_ble_eq_true rfl⟩) (fun v_ w_ hp_ => ?_)
      obtain ⟨rfl, rfl⟩ := hp_
      show Wx _ _ _ _ _ _ _ _ _ _ _ _ _ _ _ _ 20 [(0, .ref k), (1, .int (iI (S : Int))), (2, .int (iI z)), (3, .int (iI (i : Int)))] [.int (iI (bI (S.testBit i = true)))] [(k, ob 3 [.ref kp, .int (iI s0), .ref kw, .int (iI sp)]), (kp, ob 5 [.ref ka_, .ref kb, .int (iI (nt : Int))]), (kw, ia E 8 w)]
      refine x_if_eq (pc' := 23) (tgt := 32) C dX4_weightOf_20 rfl (by decide) (bI_rng) (fun c20 => ?_) (fun c20 => ?_)
      ·
        replace c20 := bI_z c20
        refine x_iinc (pc' := 35) (lv' := [(3, .int (iI ((i : Int) + 1))), (0, .ref k), (1, .int (iI (S : Int))), (2, .int (iI z))]) C 3 dX4_weightOf_32 rfl (by decide) rfl rfl ?_
        refine x_lvI (lv' := [(3, .int (iI ((i + 1 : Nat) : Int))), (0, .ref k), (1, .int (iI (S : Int))), (2, .int (iI z))]) 0 rfl (by omega) rfl ?_
        refine x_goto (tgt := 4) C dX4_weightOf_35 (by decide) ?_
        refine x_lv [1, 2, 3, 0] rfl ?_
        exact ih4 ((i + 1), z) ⟨(show (i + 1) ≤ nt from by omega), (show z = sumB w S (i + 1) from by rw [hz]; first | exact sumB_in c20 | exact sumB_out c20)⟩ (show nt - (i + 1) < nt - i from by omega)
      ·
        replace c20 := bI_nz c20
        refine x_iload_n (pc' := 24) C 2 dX4_weightOf_23 rfl rfl ?_
        refine x_aload_n (pc' := 25) C 0 dX4_weightOf_24 rfl rfl ?_
        refine x_get (pc' := 28) C dX4_weightOf_25 rfl ff_X4_16_3 0 rfl rfl ?_
        refine x_iload_n (pc' := 29) C 3 dX4_weightOf_28 rfl rfl ?_
        refine x_iald (pc' := 30) C i dX4_weightOf_29 rfl 2 rfl (by omega) (by omega) (by omega) ?_
        refine x_iadd (pc' := 31) C dX4_weightOf_30 rfl ?_
        refine x_istore_n (pc' := 32) (lv' := [(2, .int (iI (z + (w i)))), (0, .ref k), (1, .int (iI (S : Int))), (3, .int (iI (i : Int)))]) C dX4_weightOf_31 rfl (by decide) rfl ?_
        refine x_iinc (pc' := 35) (lv' := [(3, .int (iI ((i : Int) + 1))), (2, .int (iI (z + (w i)))), (0, .ref k), (1, .int (iI (S : Int)))]) C 3 dX4_weightOf_32 rfl (by decide) rfl rfl ?_
        refine x_lvI (lv' := [(3, .int (iI ((i + 1 : Nat) : Int))), (2, .int (iI (z + (w i)))), (0, .ref k), (1, .int (iI (S : Int)))]) 0 rfl (by omega) rfl ?_
        refine x_goto (tgt := 4) C dX4_weightOf_35 (by decide) ?_
        refine x_lv [2, 3, 1, 0] rfl ?_
        exact ih4 ((i + 1), (z + (w i))) ⟨(show (i + 1) ≤ nt from by omega), (show (z + (w i)) = sumB w S (i + 1) from by rw [hz]; first | exact sumB_in c20 | exact sumB_out c20)⟩ (show nt - (i + 1) < nt - i from by omega)
  · exact ⟨(show 0 ≤ nt from by omega), (show 0 = sumB w S 0 from rfl)⟩

set_option maxHeartbeats 4000000 in
set_option maxRecDepth 100000 in
theorem c_X4_listPlans (l : Launch) (E : EV) (k : Nat) (kp : Nat) (kw : Nat) (ka_ : Nat) (kb : Nat) (nt : Nat) (s0 : Int) (sp : Int) (w : Nat → Int) (h : Nat) (hb : Nat) (ha : Nat) (hc : Nat) (sg : Int) (fb : Nat → Int) (hnt : nt ≤ 8) (hw : ∀ j_ : Nat, j_ < nt → 1 ≤ w j_ ∧ w j_ ≤ 50) (hsp : 0 ≤ sp ∧ sp ≤ 200) : MC l E yX4_listPlans cX4_listPlans 3 (none) ({ frames := 2, cells := 0, slots := 0, locals := 44 }) [.ref k, .ref h] [(k, ob 3 [.ref kp, .int (iI s0), .ref kw, .int (iI sp)]), (kp, ob 5 [.ref ka_, .ref kb, .int (iI (nt : Int))]), (kw, ia E 8 w), (h, ob 7 [.ref hb, .ref ha, .ref hc, .int (iI 0), .int (iI sg)]), (hb, ia E 2002 fb)] (fun v_ w_ => ∃ (n2 : Nat) (fb2 : Nat → Int) (xs2 : List Nat), v_ = none ∧ w_ = [(k, ob 3 [.ref kp, .int (iI s0), .ref kw, .int (iI sp)]), (kp, ob 5 [.ref ka_, .ref kb, .int (iI (nt : Int))]), (kw, ia E 8 w), (h, ob 7 [.ref hb, .ref ha, .ref hc, .int (iI (n2 : Int)), .int (iI sg)]), (hb, ia E 2002 fb2)] ∧ (xs2.length = n2) ∧ (LsA fb2 xs2) ∧ (xs2 = ((List.range (2 ^ nt)).filter (ftL w nt sp)))) := by
  refine MC.of (by decide +kernel) (Nat.le_of_ble_eq_true rfl) ?_
  intro p_ e_ s_ m_ args_ below_ meth_ c_ A_ C hr hnm
  have C : Cx p_ s_ m_ args_ meth_ c_ E A_ 3 cX4_listPlans RX4 := C
  have hpow : 2 ^ nt ≤ 256 := pow_8 (by omega)
  have hpos := Nat.two_pow_pos nt
  show Wx _ _ _ _ _ _ _ _ _ _ _ _ _ _ _ _ 0 [(0, .ref k), (1, .ref h)] [] [(k, ob 3 [.ref kp, .int (iI s0), .ref kw, .int (iI sp)]), (kp, ob 5 [.ref ka_, .ref kb, .int (iI (nt : Int))]), (kw, ia E 8 w), (h, ob 7 [.ref hb, .ref ha, .ref hc, .int (iI 0), .int (iI sg)]), (hb, ia E 2002 fb)]
  refine x_iconst (pc' := 1) C dX4_listPlans_0 rfl ?_
  refine x_istore_n (pc' := 2) (lv' := [(2, .int (iI 0)), (0, .ref k), (1, .ref h)]) C dX4_listPlans_1 rfl (by decide) rfl ?_
  refine x_lv [1, 2, 0] rfl ?_
  refine x_loop (α := (Nat) × (Nat) × (Nat → Int) × (List Nat)) (fun a_ => (a_.1 ≤ 2 ^ nt) ∧ (a_.2.2.2.length = a_.2.1) ∧ (LsA a_.2.2.1 a_.2.2.2) ∧ (a_.2.2.2 = ((List.range a_.1).filter (ftL w nt sp)))) (fun a_ => 2 ^ nt - a_.1) (fun a_ => [(0, .ref k), (1, .ref h), (2, .int (iI (a_.1 : Int)))]) (fun a_ => [(k, ob 3 [.ref kp, .int (iI s0), .ref kw, .int (iI sp)]), (kp, ob 5 [.ref ka_, .ref kb, .int (iI (nt : Int))]), (kw, ia E 8 w), (h, ob 7 [.ref hb, .ref ha, .ref hc, .int (iI (a_.2.1 : Int)), .int (iI sg)]), (hb, ia E 2002 a_.2.2.1)]) ?_ (0, 0, fb, ([])) ?_
  · intro a_ hI_ ih2
    obtain ⟨i, n1, f1, xs1⟩ := a_
    obtain ⟨hi, hl, hs, he⟩ := hI_
    replace hi : i ≤ 2 ^ nt := hi
    replace hl : xs1.length = n1 := hl
    replace hs : LsA f1 xs1 := hs
    replace he : xs1 = ((List.range i).filter (ftL w nt sp)) := he
    show Wx _ _ _ _ _ _ _ _ _ _ _ _ _ _ _ _ 2 [(0, .ref k), (1, .ref h), (2, .int (iI (i : Int)))] [] [(k, ob 3 [.ref kp, .int (iI s0), .ref kw, .int (iI sp)]), (kp, ob 5 [.ref ka_, .ref kb, .int (iI (nt : Int))]), (kw, ia E 8 w), (h, ob 7 [.ref hb, .ref ha, .ref hc, .int (iI (n1 : Int)), .int (iI sg)]), (hb, ia E 2002 f1)]
    refine x_iload_n (pc' := 3) C 2 dX4_listPlans_2 rfl rfl ?_
    refine x_aload_n (pc' := 4) C 0 dX4_listPlans_3 rfl rfl ?_
    refine x_get (pc' := 7) C dX4_listPlans_4 rfl ff_X4_24_3 0 rfl rfl ?_
    refine x_callV (pc' := 10) (As := []) (rest := [.int (iI (i : Int))]) (q0 := 0) C rfl rfl cv_X4_39_X6 dX4_listPlans_7 rfl (c_X6_all l E kp ka_ kb nt (show nt < 31 from by omega)) mm_X6_all (hstk := rfl) (hlen := rfl) (hcat := Nat.le_of_ble_eq_true rfl) (isC := [1]) (isR := [0, 2, 3, 4]) (wr := [(k, ob 3 [.ref kp, .int (iI s0), .ref kw, .int (iI sp)]), (kw, ia E 8 w), (h, ob 7 [.ref hb, .ref ha, .ref hc, .int (iI (n1 : Int)), .int (iI sg)]), (hb, ia E 2002 f1)]) (hC := rfl) (hR := rfl) (hnC := rfl) (hn := rfl) (hdis := by decide) (hR1 := ⟨Nat.le_of_ble_eq_true rfl, Nat.le_of_ble_eq_true rfl⟩) (hcs := ⟨Nat.le_of_ble_eq_true rfl, Nat.le_of_ble_eq_true rfl⟩) (fun v_ w_ hp_ => ?_)
    obtain ⟨rfl, rfl⟩ := hp_
    show Wx _ _ _ _ _ _ _ _ _ _ _ _ _ _ _ _ 10 [(0, .ref k), (1, .ref h), (2, .int (iI (i : Int)))] [.int (iI ((2 ^ nt - 1 : Nat) : Int)), .int (iI (i : Int))] [(k, ob 3 [.ref kp, .int (iI s0), .ref kw, .int (iI sp)]), (kw, ia E 8 w), (h, ob 7 [.ref hb, .ref ha, .ref hc, .int (iI (n1 : Int)), .int (iI sg)]), (hb, ia E 2002 f1), (kp, ob 5 [.ref ka_, .ref kb, .int (iI (nt : Int))])]
    refine x_sub (ws' := [(k, ob 3 [.ref kp, .int (iI s0), .ref kw, .int (iI sp)]), (kp, ob 5 [.ref ka_, .ref kb, .int (iI (nt : Int))]), (kw, ia E 8 w), (h, ob 7 [.ref hb, .ref ha, .ref hc, .int (iI (n1 : Int)), .int (iI sg)]), (hb, ia E 2002 f1)]) [0, 4, 1, 2, 3] rfl rfl ?_
    refine x_icmp_gt (pc' := 13) (tgt := 36) C dX4_listPlans_10 rfl (by decide) (by omega) (by omega) (fun c10 => ?_) (fun c10 => ?_)
    ·
      exact x_vret C hr dX4_listPlans_36 ⟨n1, f1, xs1, rfl, rfl, (show xs1.length = n1 from hl), (show LsA f1 xs1 from hs), (show xs1 = ((List.range (2 ^ nt)).filter (ftL w nt sp)) from by rw [he, show i = 2 ^ nt by omega])⟩
    ·
      refine x_aload_n (pc' := 14) C 0 dX4_listPlans_13 rfl rfl ?_
      refine x_iload_n (pc' := 15) C 2 dX4_listPlans_14 rfl rfl ?_
      refine x_callV (pc' := 18) (As := [.int (iI (i : Int))]) (rest := []) (q0 := 0) C rfl rfl cv_X4_43_X4 dX4_listPlans_15 rfl (c_X4_weightOf l E k kp kw ka_ kb nt s0 sp w i (show nt ≤ 8 from by omega) (show ∀ j_ : Nat, j_ < nt → 1 ≤ w j_ ∧ w j_ ≤ 50 from hw) (show 0 ≤ sp ∧ sp ≤ 200 from by omega) (show i < 1000000 from by omega)) mm_X4_weightOf (hstk := rfl) (hlen := rfl) (hcat := Nat.le_of_ble_eq_true rfl) (isC := [0, 1, 2]) (isR := [3, 4]) (wr := [(h, ob 7 [.ref hb, .ref ha, .ref hc, .int (iI (n1 : Int)), .int (iI sg)]), (hb, ia E 2002 f1)]) (hC := rfl) (hR := rfl) (hnC := rfl) (hn := rfl) (hdis := by decide) (hR1 := ⟨Nat.le_of_ble_eq_true rfl, Nat.le_of_ble_eq_true rfl⟩) (hcs := ⟨Nat.le_of_ble_eq_true rfl, Nat.le_of_ble_eq_true rfl⟩) (fun v_ w_ hp_ => ?_)
      obtain ⟨rfl, rfl⟩ := hp_
      show Wx _ _ _ _ _ _ _ _ _ _ _ _ _ _ _ _ 18 [(0, .ref k), (1, .ref h), (2, .int (iI (i : Int)))] [.int (iI (sumB w i nt))] [(h, ob 7 [.ref hb, .ref ha, .ref hc, .int (iI (n1 : Int)), .int (iI sg)]), (hb, ia E 2002 f1), (k, ob 3 [.ref kp, .int (iI s0), .ref kw, .int (iI sp)]), (kp, ob 5 [.ref ka_, .ref kb, .int (iI (nt : Int))]), (kw, ia E 8 w)]
      refine x_sub (ws' := [(k, ob 3 [.ref kp, .int (iI s0), .ref kw, .int (iI sp)]), (kp, ob 5 [.ref ka_, .ref kb, .int (iI (nt : Int))]), (kw, ia E 8 w), (h, ob 7 [.ref hb, .ref ha, .ref hc, .int (iI (n1 : Int)), .int (iI sg)]), (hb, ia E 2002 f1)]) [2, 3, 4, 0, 1] rfl rfl ?_
      have hwb := sumB_w (S := i) hw
      refine x_aload_n (pc' := 19) C 0 dX4_listPlans_18 rfl rfl ?_
      refine x_get (pc' := 22) C dX4_listPlans_19 rfl ff_X4_20_3 0 rfl rfl ?_
      refine x_icmp_gt (pc' := 25) (tgt := 30) C dX4_listPlans_22 rfl (by decide) (by omega) (by omega) (fun c22 => ?_) (fun c22 => ?_)
      ·
        refine x_iinc (pc' := 33) (lv' := [(2, .int (iI ((i : Int) + 1))), (0, .ref k), (1, .ref h)]) C 2 dX4_listPlans_30 rfl (by decide) rfl rfl ?_
        refine x_lvI (lv' := [(2, .int (iI ((i + 1 : Nat) : Int))), (0, .ref k), (1, .ref h)]) 0 rfl (by omega) rfl ?_
        refine x_goto (tgt := 2) C dX4_listPlans_33 (by decide) ?_
        refine x_lv [1, 2, 0] rfl ?_
        exact ih2 ((i + 1), n1, f1, xs1) ⟨(show (i + 1) ≤ 2 ^ nt from by omega), (show xs1.length = n1 from hl), (show LsA f1 xs1 from hs), (show xs1 = ((List.range (i + 1)).filter (ftL w nt sp)) from filt_skip he (by unfold ftL; intro hh; have := of_decide_eq_true hh; omega))⟩ (show 2 ^ nt - (i + 1) < 2 ^ nt - i from by omega)
      ·
        refine x_aload_n (pc' := 26) C 1 dX4_listPlans_25 rfl rfl ?_
        refine x_iload_n (pc' := 27) C 2 dX4_listPlans_26 rfl rfl ?_
        refine x_callV (pc' := 30) (As := [.int (iI (i : Int))]) (rest := []) (q0 := 0) C rfl rfl cv_X4_47_X8 dX4_listPlans_27 rfl (c_X8_insert l E h hb ha hc n1 i sg f1 xs1 (show n1 < 2002 from by have := filt_len (i := i) (P := (ftL w nt sp)); rw [← he] at this; omega) (show i < 1000000 from by omega) (show xs1.length = n1 from hl) (show LsA f1 xs1 from hs) (show xs1.Pairwise (· ≤ ·) from filt_so he) (show ∀ j (h : j < xs1.length), xs1[j] < 1000000 from get_bd (filt_bd he (by omega)))) mm_X8_insert (hstk := rfl) (hlen := rfl) (hcat := Nat.le_of_ble_eq_true rfl) (isC := [3, 4]) (isR := [0, 1, 2]) (wr := [(k, ob 3 [.ref kp, .int (iI s0), .ref kw, .int (iI sp)]), (kp, ob 5 [.ref ka_, .ref kb, .int (iI (nt : Int))]), (kw, ia E 8 w)]) (hC := rfl) (hR := rfl) (hnC := rfl) (hn := rfl) (hdis := by decide) (hR1 := ⟨Nat.le_of_ble_eq_true rfl, Nat.le_of_ble_eq_true rfl⟩) (hcs := ⟨Nat.le_of_ble_eq_true rfl, Nat.le_of_ble_eq_true rfl⟩) (fun v_ w_ hp_ => ?_)
        obtain ⟨fb2_27, xs2_27, rfl, rfl, g27_l, g27_s, g27_o, g27_p⟩ := hp_
        replace g27_l : xs2_27.length = n1 + 1 := g27_l
        replace g27_s : LsA fb2_27 xs2_27 := g27_s
        replace g27_o : xs2_27.Pairwise (· ≤ ·) := g27_o
        replace g27_p : xs2_27.Perm (i :: xs1) := g27_p
        show Wx _ _ _ _ _ _ _ _ _ _ _ _ _ _ _ _ 30 [(0, .ref k), (1, .ref h), (2, .int (iI (i : Int)))] [] [(k, ob 3 [.ref kp, .int (iI s0), .ref kw, .int (iI sp)]), (kp, ob 5 [.ref ka_, .ref kb, .int (iI (nt : Int))]), (kw, ia E 8 w), (h, ob 7 [.ref hb, .ref ha, .ref hc, .int (iI ((n1 + 1 : Nat) : Int)), .int (iI sg)]), (hb, ia E 2002 fb2_27)]
        refine x_iinc (pc' := 33) (lv' := [(2, .int (iI ((i : Int) + 1))), (0, .ref k), (1, .ref h)]) C 2 dX4_listPlans_30 rfl (by decide) rfl rfl ?_
        refine x_lvI (lv' := [(2, .int (iI ((i + 1 : Nat) : Int))), (0, .ref k), (1, .ref h)]) 0 rfl (by omega) rfl ?_
        refine x_goto (tgt := 2) C dX4_listPlans_33 (by decide) ?_
        refine x_lv [1, 2, 0] rfl ?_
        exact ih2 ((i + 1), (n1 + 1), fb2_27, xs2_27) ⟨(show (i + 1) ≤ 2 ^ nt from by omega), (show xs2_27.length = (n1 + 1) from g27_l), (show LsA fb2_27 xs2_27 from g27_s), (show xs2_27 = ((List.range (i + 1)).filter (ftL w nt sp)) from filt_step he (by unfold ftL; exact decide_eq_true (by omega)) g27_o g27_p)⟩ (show 2 ^ nt - (i + 1) < 2 ^ nt - i from by omega)
  · exact ⟨(show 0 ≤ 2 ^ nt from by omega), (show ([]).length = 0 from rfl), (show LsA fb ([]) from LsA.nil), (show ([]) = ((List.range 0).filter (ftL w nt sp)) from rfl)⟩

set_option maxHeartbeats 4000000 in
set_option maxRecDepth 100000 in
theorem c_X1_isClosed (l : Launch) (E : EV) (k : Nat) (kp : Nat) (kw : Nat) (ka_ : Nat) (kb : Nat) (nb : Nat) (s0 : Int) (w : Nat → Int) (S : Nat) (hnb : nb ≤ 8) (hw : ∀ j_ : Nat, j_ < nb → 0 ≤ w j_ ∧ w j_ < 256) (hS : S < 1000000) : MC l E yX1_isClosed cX1_isClosed 3 (some .boolean) ({ frames := 1, cells := 0, slots := 0, locals := 21 }) [.ref k, .int (iI (S : Int))] [(k, ob 1 [.ref kp, .int (iI s0), .ref kw]), (kp, ob 5 [.ref ka_, .ref kb, .int (iI (nb : Int))]), (kw, ia E 8 w)] (fun v_ w_ => v_ = some (.int (iI (bI (ftH w S nb = true)))) ∧ w_ = [(k, ob 1 [.ref kp, .int (iI s0), .ref kw]), (kp, ob 5 [.ref ka_, .ref kb, .int (iI (nb : Int))]), (kw, ia E 8 w)]) := by
  refine MC.of (by decide +kernel) (Nat.le_of_ble_eq_true rfl) ?_
  intro p_ e_ s_ m_ args_ below_ meth_ c_ A_ C hr hnm
  have C : Cx p_ s_ m_ args_ meth_ c_ E A_ 3 cX1_isClosed RX1 := C
  show Wx _ _ _ _ _ _ _ _ _ _ _ _ _ _ _ _ 0 [(0, .ref k), (1, .int (iI (S : Int)))] [] [(k, ob 1 [.ref kp, .int (iI s0), .ref kw]), (kp, ob 5 [.ref ka_, .ref kb, .int (iI (nb : Int))]), (kw, ia E 8 w)]
  refine x_iconst (pc' := 1) C dX1_isClosed_0 rfl ?_
  refine x_istore_n (pc' := 2) (lv' := [(2, .int (iI 0)), (0, .ref k), (1, .int (iI (S : Int)))]) C dX1_isClosed_1 rfl (by decide) rfl ?_
  refine x_lv [1, 2, 0] rfl ?_
  refine x_loop (α := Nat) (fun a_ => (a_ ≤ nb) ∧ (ftH w S a_ = true)) (fun a_ => nb - a_) (fun a_ => [(0, .ref k), (1, .int (iI (S : Int))), (2, .int (iI (a_ : Int)))]) (fun a_ => [(k, ob 1 [.ref kp, .int (iI s0), .ref kw]), (kp, ob 5 [.ref ka_, .ref kb, .int (iI (nb : Int))]), (kw, ia E 8 w)]) ?_ 0 ?_
  · intro a_ hI_ ih2
    obtain ⟨i, rfl⟩ : ∃ z_, z_ = a_ := ⟨_, rfl⟩
    obtain ⟨hi, hz⟩ := hI_
    replace hi : i ≤ nb := hi
    replace hz : ftH w S i = true := hz
    show Wx _ _ _ _ _ _ _ _ _ _ _ _ _ _ _ _ 2 [(0, .ref k), (1, .int (iI (S : Int))), (2, .int (iI (i : Int)))] [] [(k, ob 1 [.ref kp, .int (iI s0), .ref kw]), (kp, ob 5 [.ref ka_, .ref kb, .int (iI (nb : Int))]), (kw, ia E 8 w)]
    refine x_iload_n (pc' := 3) C 2 dX1_isClosed_2 rfl rfl ?_
    refine x_aload_n (pc' := 4) C 0 dX1_isClosed_3 rfl rfl ?_
    refine x_get (pc' := 7) C dX1_isClosed_4 rfl ff_X1_20_1 0 rfl rfl ?_
    refine x_get (pc' := 10) C dX1_isClosed_7 rfl ff_X1_28_5 1 rfl rfl ?_
    refine x_icmp_ge (pc' := 13) (tgt := 42) C dX1_isClosed_10 rfl (by decide) (by omega) (by omega) (fun c10 => ?_) (fun c10 => ?_)
    ·
      refine x_iconst (pc' := 43) C dX1_isClosed_42 rfl ?_
      refine x_top (b := .int (iI (bI (ftH w S nb = true)))) (by rw [bI_t (by rw [← show i = nb by omega]; exact hz)]) ?_
      exact x_zret C (nar_bI) hr dX1_isClosed_43 ⟨rfl, rfl⟩
    ·
      refine x_iload_n (pc' := 14) C 1 dX1_isClosed_13 rfl rfl ?_
      refine x_iload_n (pc' := 15) C 2 dX1_isClosed_14 rfl rfl ?_
      refine x_callN (pc' := 18) (As := [.int (iI (S : Int)), .int (iI (i : Int))]) (rest := []) C cn_X1_36 dX1_isClosed_15 rfl (c_X11_holds l E S i (show S < 2147483648 from by omega) (show i < 32 from by omega)) mm_X11_holds (hstk := rfl) (hlen := rfl) (hcat := Nat.le_of_ble_eq_true rfl) (isC := []) (isR := [0, 1, 2]) (wr := [(k, ob 1 [.ref kp, .int (iI s0), .ref kw]), (kp, ob 5 [.ref ka_, .ref kb, .int (iI (nb : Int))]), (kw, ia E 8 w)]) (hC := rfl) (hR := rfl) (hnC := rfl) (hn := rfl) (hdis := by decide) (hR1 := ⟨Nat.le_of_ble_eq_true rfl, Nat.le_of_ble_eq_true rfl⟩) (hcs := ⟨Nat.le_of_ble_eq_true rfl, Nat.le_of_ble_eq_true rfl⟩) (fun v_ w_ hp_ => ?_)
      obtain ⟨rfl, rfl⟩ := hp_
      show Wx _ _ _ _ _ _ _ _ _ _ _ _ _ _ _ _ 18 [(0, .ref k), (1, .int (iI (S : Int))), (2, .int (iI (i : Int)))] [.int (iI (bI (S.testBit i = true)))] [(k, ob 1 [.ref kp, .int (iI s0), .ref kw]), (kp, ob 5 [.ref ka_, .ref kb, .int (iI (nb : Int))]), (kw, ia E 8 w)]
      refine x_if_eq (pc' := 21) (tgt := 36) C dX1_isClosed_18 rfl (by decide) (bI_rng) (fun c18 => ?_) (fun c18 => ?_)
      ·
        replace c18 := bI_z c18
        refine x_iinc (pc' := 39) (lv' := [(2, .int (iI ((i : Int) + 1))), (0, .ref k), (1, .int (iI (S : Int)))]) C 2 dX1_isClosed_36 rfl (by decide) rfl rfl ?_
        refine x_lvI (lv' := [(2, .int (iI ((i + 1 : Nat) : Int))), (0, .ref k), (1, .int (iI (S : Int)))]) 0 rfl (by omega) rfl ?_
        refine x_goto (tgt := 2) C dX1_isClosed_39 (by decide) ?_
        refine x_lv [1, 2, 0] rfl ?_
        exact ih2 (i + 1) ⟨(show (i + 1) ≤ nb from by omega), (show ftH w S (i + 1) = true from by first | exact ftH_t hz (fun hh => absurd hh.1 c18) | exact ftH_t hz (fun hh => hh.2 (by omega)))⟩ (show nb - (i + 1) < nb - i from by omega)
      ·
        replace c18 := bI_nz c18
        refine x_aload_n (pc' := 22) C 0 dX1_isClosed_21 rfl rfl ?_
        refine x_get (pc' := 25) C dX1_isClosed_22 rfl ff_X1_16_1 0 rfl rfl ?_
        refine x_iload_n (pc' := 26) C 2 dX1_isClosed_25 rfl rfl ?_
        have hw1 := hw i (by omega)
        have hsd := sdiff_le (w i).toNat S
        refine x_iald (pc' := 27) C i dX1_isClosed_26 rfl 2 rfl (by omega) (by omega) (by omega) ?_
        refine x_top (b := .int (iI (((w i).toNat : Nat) : Int))) (by congr 2; omega) ?_
        refine x_iload_n (pc' := 28) C 1 dX1_isClosed_27 rfl rfl ?_
        refine x_iconst (pc' := 29) C dX1_isClosed_28 rfl ?_
        refine x_ixor (pc' := 30) (z := (iI (S : Int) ^^^ iI (-1))) C dX1_isClosed_29 rfl (rfl) ?_
        refine x_iand (pc' := 31) (z := (iI ((sdiff (w i).toNat S : Nat) : Int))) C dX1_isClosed_30 rfl (bt_andn _ _) ?_
        refine x_if_eq (pc' := 34) (tgt := 36) C dX1_isClosed_31 rfl (by decide) (by omega) (fun c31 => ?_) (fun c31 => ?_)
        ·
          refine x_iinc (pc' := 39) (lv' := [(2, .int (iI ((i : Int) + 1))), (0, .ref k), (1, .int (iI (S : Int)))]) C 2 dX1_isClosed_36 rfl (by decide) rfl rfl ?_
          refine x_lvI (lv' := [(2, .int (iI ((i + 1 : Nat) : Int))), (0, .ref k), (1, .int (iI (S : Int)))]) 0 rfl (by omega) rfl ?_
          refine x_goto (tgt := 2) C dX1_isClosed_39 (by decide) ?_
          refine x_lv [1, 2, 0] rfl ?_
          exact ih2 (i + 1) ⟨(show (i + 1) ≤ nb from by omega), (show ftH w S (i + 1) = true from by first | exact ftH_t hz (fun hh => absurd hh.1 c18) | exact ftH_t hz (fun hh => hh.2 (by omega)))⟩ (show nb - (i + 1) < nb - i from by omega)
        ·
          refine x_iconst (pc' := 35) C dX1_isClosed_34 rfl ?_
          refine x_top (b := .int (iI (bI (ftH w S nb = true)))) (by rw [bI_f (by rw [ftH_f c18 (by omega) nb (by omega)]; decide)]) ?_
          exact x_zret C (nar_bI) hr dX1_isClosed_35 ⟨rfl, rfl⟩
  · exact ⟨(show 0 ≤ nb from by omega), (show ftH w S 0 = true from rfl)⟩

set_option maxHeartbeats 4000000 in
set_option maxRecDepth 100000 in
theorem c_X1_listPlans (l : Launch) (E : EV) (k : Nat) (kp : Nat) (kw : Nat) (ka_ : Nat) (kb : Nat) (nb : Nat) (s0 : Int) (w : Nat → Int) (h : Nat) (hb : Nat) (ha : Nat) (hc : Nat) (sg : Int) (fb : Nat → Int) (hnb : nb ≤ 8) (hw : ∀ j_ : Nat, j_ < nb → 0 ≤ w j_ ∧ w j_ < 256) : MC l E yX1_listPlans cX1_listPlans 3 (none) ({ frames := 2, cells := 0, slots := 0, locals := 43 }) [.ref k, .ref h] [(k, ob 1 [.ref kp, .int (iI s0), .ref kw]), (kp, ob 5 [.ref ka_, .ref kb, .int (iI (nb : Int))]), (kw, ia E 8 w), (h, ob 7 [.ref hb, .ref ha, .ref hc, .int (iI 0), .int (iI sg)]), (hb, ia E 2002 fb)] (fun v_ w_ => ∃ (n2 : Nat) (fb2 : Nat → Int) (xs2 : List Nat), v_ = none ∧ w_ = [(k, ob 1 [.ref kp, .int (iI s0), .ref kw]), (kp, ob 5 [.ref ka_, .ref kb, .int (iI (nb : Int))]), (kw, ia E 8 w), (h, ob 7 [.ref hb, .ref ha, .ref hc, .int (iI (n2 : Int)), .int (iI sg)]), (hb, ia E 2002 fb2)] ∧ (xs2.length = n2) ∧ (LsA fb2 xs2) ∧ (xs2 = ((List.range (2 ^ nb)).filter (fun q_ => ftH w q_ nb)))) := by
  refine MC.of (by decide +kernel) (Nat.le_of_ble_eq_true rfl) ?_
  intro p_ e_ s_ m_ args_ below_ meth_ c_ A_ C hr hnm
  have C : Cx p_ s_ m_ args_ meth_ c_ E A_ 3 cX1_listPlans RX1 := C
  have hpow : 2 ^ nb ≤ 256 := pow_8 (by omega)
  have hpos := Nat.two_pow_pos nb
  show Wx _ _ _ _ _ _ _ _ _ _ _ _ _ _ _ _ 0 [(0, .ref k), (1, .ref h)] [] [(k, ob 1 [.ref kp, .int (iI s0), .ref kw]), (kp, ob 5 [.ref ka_, .ref kb, .int (iI (nb : Int))]), (kw, ia E 8 w), (h, ob 7 [.ref hb, .ref ha, .ref hc, .int (iI 0), .int (iI sg)]), (hb, ia E 2002 fb)]
  refine x_iconst (pc' := 1) C dX1_listPlans_0 rfl ?_
  refine x_istore_n (pc' := 2) (lv' := [(2, .int (iI 0)), (0, .ref k), (1, .ref h)]) C dX1_listPlans_1 rfl (by decide) rfl ?_
  refine x_lv [1, 2, 0] rfl ?_
  refine x_loop (α := (Nat) × (Nat) × (Nat → Int) × (List Nat)) (fun a_ => (a_.1 ≤ 2 ^ nb) ∧ (a_.2.2.2.length = a_.2.1) ∧ (LsA a_.2.2.1 a_.2.2.2) ∧ (a_.2.2.2 = ((List.range a_.1).filter (fun q_ => ftH w q_ nb)))) (fun a_ => 2 ^ nb - a_.1) (fun a_ => [(0, .ref k), (1, .ref h), (2, .int (iI (a_.1 : Int)))]) (fun a_ => [(k, ob 1 [.ref kp, .int (iI s0), .ref kw]), (kp, ob 5 [.ref ka_, .ref kb, .int (iI (nb : Int))]), (kw, ia E 8 w), (h, ob 7 [.ref hb, .ref ha, .ref hc, .int (iI (a_.2.1 : Int)), .int (iI sg)]), (hb, ia E 2002 a_.2.2.1)]) ?_ (0, 0, fb, ([])) ?_
  · intro a_ hI_ ih2
    obtain ⟨i, n1, f1, xs1⟩ := a_
    obtain ⟨hi, hl, hs, he⟩ := hI_
    replace hi : i ≤ 2 ^ nb := hi
    replace hl : xs1.length = n1 := hl
    replace hs : LsA f1 xs1 := hs
    replace he : xs1 = ((List.range i).filter (fun q_ => ftH w q_ nb)) := he
    show Wx _ _ _ _ _ _ _ _ _ _ _ _ _ _ _ _ 2 [(0, .ref k), (1, .ref h), (2, .int (iI (i : Int)))] [] [(k, ob 1 [.ref kp, .int (iI s0), .ref kw]), (kp, ob 5 [.ref ka_, .ref kb, .int (iI (nb : Int))]), (kw, ia E 8 w), (h, ob 7 [.ref hb, .ref ha, .ref hc, .int (iI (n1 : Int)), .int (iI sg)]), (hb, ia E 2002 f1)]
    refine x_iload_n (pc' := 3) C 2 dX1_listPlans_2 rfl rfl ?_
    refine x_aload_n (pc' := 4) C 0 dX1_listPlans_3 rfl rfl ?_
    refine x_get (pc' := 7) C dX1_listPlans_4 rfl ff_X1_20_1 0 rfl rfl ?_
    refine x_callV (pc' := 10) (As := []) (rest := [.int (iI (i : Int))]) (q0 := 0) C rfl rfl cv_X1_40_X6 dX1_listPlans_7 rfl (c_X6_all l E kp ka_ kb nb (show nb < 31 from by omega)) mm_X6_all (hstk := rfl) (hlen := rfl) (hcat := Nat.le_of_ble_eq_true rfl) (isC := [1]) (isR := [0, 2, 3, 4]) (wr := [(k, ob 1 [.ref kp, .int (iI s0), .ref kw]), (kw, ia E 8 w), (h, ob 7 [.ref hb, .ref ha, .ref hc, .int (iI (n1 : Int)), .int (iI sg)]), (hb, ia E 2002 f1)]) (hC := rfl) (hR := rfl) (hnC := rfl) (hn := rfl) (hdis := by decide) (hR1 := ⟨Nat.le_of_ble_eq_true rfl, Nat.le_of_ble_eq_true rfl⟩) (hcs := ⟨Nat.le_of_ble_eq_true rfl, Nat.le_of_ble_eq_true rfl⟩) (fun v_ w_ hp_ => ?_)
    obtain ⟨rfl, rfl⟩ := hp_
    show Wx _ _ _ _ _ _ _ _ _ _ _ _ _ _ _ _ 10 [(0, .ref k), (1, .ref h), (2, .int (iI (i : Int)))] [.int (iI ((2 ^ nb - 1 : Nat) : Int)), .int (iI (i : Int))] [(k, ob 1 [.ref kp, .int (iI s0), .ref kw]), (kw, ia E 8 w), (h, ob 7 [.ref hb, .ref ha, .ref hc, .int (iI (n1 : Int)), .int (iI sg)]), (hb, ia E 2002 f1), (kp, ob 5 [.ref ka_, .ref kb, .int (iI (nb : Int))])]
    refine x_sub (ws' := [(k, ob 1 [.ref kp, .int (iI s0), .ref kw]), (kp, ob 5 [.ref ka_, .ref kb, .int (iI (nb : Int))]), (kw, ia E 8 w), (h, ob 7 [.ref hb, .ref ha, .ref hc, .int (iI (n1 : Int)), .int (iI sg)]), (hb, ia E 2002 f1)]) [0, 4, 1, 2, 3] rfl rfl ?_
    refine x_icmp_gt (pc' := 13) (tgt := 32) C dX1_listPlans_10 rfl (by decide) (by omega) (by omega) (fun c10 => ?_) (fun c10 => ?_)
    ·
      exact x_vret C hr dX1_listPlans_32 ⟨n1, f1, xs1, rfl, rfl, (show xs1.length = n1 from hl), (show LsA f1 xs1 from hs), (show xs1 = ((List.range (2 ^ nb)).filter (fun q_ => ftH w q_ nb)) from by rw [he, show i = 2 ^ nb by omega])⟩
    ·
      refine x_aload_n (pc' := 14) C 0 dX1_listPlans_13 rfl rfl ?_
      refine x_iload_n (pc' := 15) C 2 dX1_listPlans_14 rfl rfl ?_
      refine x_callV (pc' := 18) (As := [.int (iI (i : Int))]) (rest := []) (q0 := 0) C rfl rfl cv_X1_44_X1 dX1_listPlans_15 rfl (c_X1_isClosed l E k kp kw ka_ kb nb s0 w i (show nb ≤ 8 from by omega) (show ∀ j_ : Nat, j_ < nb → 0 ≤ w j_ ∧ w j_ < 256 from hw) (show i < 1000000 from by omega)) mm_X1_isClosed (hstk := rfl) (hlen := rfl) (hcat := Nat.le_of_ble_eq_true rfl) (isC := [0, 1, 2]) (isR := [3, 4]) (wr := [(h, ob 7 [.ref hb, .ref ha, .ref hc, .int (iI (n1 : Int)), .int (iI sg)]), (hb, ia E 2002 f1)]) (hC := rfl) (hR := rfl) (hnC := rfl) (hn := rfl) (hdis := by decide) (hR1 := ⟨Nat.le_of_ble_eq_true rfl, Nat.le_of_ble_eq_true rfl⟩) (hcs := ⟨Nat.le_of_ble_eq_true rfl, Nat.le_of_ble_eq_true rfl⟩) (fun v_ w_ hp_ => ?_)
      obtain ⟨rfl, rfl⟩ := hp_
      show Wx _ _ _ _ _ _ _ _ _ _ _ _ _ _ _ _ 18 [(0, .ref k), (1, .ref h), (2, .int (iI (i : Int)))] [.int (iI (bI (ftH w i nb = true)))] [(h, ob 7 [.ref hb, .ref ha, .ref hc, .int (iI (n1 : Int)), .int (iI sg)]), (hb, ia E 2002 f1), (k, ob 1 [.ref kp, .int (iI s0), .ref kw]), (kp, ob 5 [.ref ka_, .ref kb, .int (iI (nb : Int))]), (kw, ia E 8 w)]
      refine x_sub (ws' := [(k, ob 1 [.ref kp, .int (iI s0), .ref kw]), (kp, ob 5 [.ref ka_, .ref kb, .int (iI (nb : Int))]), (kw, ia E 8 w), (h, ob 7 [.ref hb, .ref ha, .ref hc, .int (iI (n1 : Int)), .int (iI sg)]), (hb, ia E 2002 f1)]) [2, 3, 4, 0, 1] rfl rfl ?_
      refine x_if_eq (pc' := 21) (tgt := 26) C dX1_listPlans_18 rfl (by decide) (bI_rng) (fun c18 => ?_) (fun c18 => ?_)
      ·
        replace c18 := bI_z c18
        refine x_iinc (pc' := 29) (lv' := [(2, .int (iI ((i : Int) + 1))), (0, .ref k), (1, .ref h)]) C 2 dX1_listPlans_26 rfl (by decide) rfl rfl ?_
        refine x_lvI (lv' := [(2, .int (iI ((i + 1 : Nat) : Int))), (0, .ref k), (1, .ref h)]) 0 rfl (by omega) rfl ?_
        refine x_goto (tgt := 2) C dX1_listPlans_29 (by decide) ?_
        refine x_lv [1, 2, 0] rfl ?_
        exact ih2 ((i + 1), n1, f1, xs1) ⟨(show (i + 1) ≤ 2 ^ nb from by omega), (show xs1.length = n1 from hl), (show LsA f1 xs1 from hs), (show xs1 = ((List.range (i + 1)).filter (fun q_ => ftH w q_ nb)) from filt_skip he (c18))⟩ (show 2 ^ nb - (i + 1) < 2 ^ nb - i from by omega)
      ·
        replace c18 := bI_nz c18
        refine x_aload_n (pc' := 22) C 1 dX1_listPlans_21 rfl rfl ?_
        refine x_iload_n (pc' := 23) C 2 dX1_listPlans_22 rfl rfl ?_
        refine x_callV (pc' := 26) (As := [.int (iI (i : Int))]) (rest := []) (q0 := 0) C rfl rfl cv_X1_48_X8 dX1_listPlans_23 rfl (c_X8_insert l E h hb ha hc n1 i sg f1 xs1 (show n1 < 2002 from by have := filt_len (i := i) (P := (fun q_ => ftH w q_ nb)); rw [← he] at this; omega) (show i < 1000000 from by omega) (show xs1.length = n1 from hl) (show LsA f1 xs1 from hs) (show xs1.Pairwise (· ≤ ·) from filt_so he) (show ∀ j (h : j < xs1.length), xs1[j] < 1000000 from get_bd (filt_bd he (by omega)))) mm_X8_insert (hstk := rfl) (hlen := rfl) (hcat := Nat.le_of_ble_eq_true rfl) (isC := [3, 4]) (isR := [0, 1, 2]) (wr := [(k, ob 1 [.ref kp, .int (iI s0), .ref kw]), (kp, ob 5 [.ref ka_, .ref kb, .int (iI (nb : Int))]), (kw, ia E 8 w)]) (hC := rfl) (hR := rfl) (hnC := rfl) (hn := rfl) (hdis := by decide) (hR1 := ⟨Nat.le_of_ble_eq_true rfl, Nat.le_of_ble_eq_true rfl⟩) (hcs := ⟨Nat.le_of_ble_eq_true rfl, Nat.le_of_ble_eq_true rfl⟩) (fun v_ w_ hp_ => ?_)
        obtain ⟨fb2_23, xs2_23, rfl, rfl, g23_l, g23_s, g23_o, g23_p⟩ := hp_
        replace g23_l : xs2_23.length = n1 + 1 := g23_l
        replace g23_s : LsA fb2_23 xs2_23 := g23_s
        replace g23_o : xs2_23.Pairwise (· ≤ ·) := g23_o
        replace g23_p : xs2_23.Perm (i :: xs1) := g23_p
        show Wx _ _ _ _ _ _ _ _ _ _ _ _ _ _ _ _ 26 [(0, .ref k), (1, .ref h), (2, .int (iI (i : Int)))] [] [(k, ob 1 [.ref kp, .int (iI s0), .ref kw]), (kp, ob 5 [.ref ka_, .ref kb, .int (iI (nb : Int))]), (kw, ia E 8 w), (h, ob 7 [.ref hb, .ref ha, .ref hc, .int (iI ((n1 + 1 : Nat) : Int)), .int (iI sg)]), (hb, ia E 2002 fb2_23)]
        refine x_iinc (pc' := 29) (lv' := [(2, .int (iI ((i : Int) + 1))), (0, .ref k), (1, .ref h)]) C 2 dX1_listPlans_26 rfl (by decide) rfl rfl ?_
        refine x_lvI (lv' := [(2, .int (iI ((i + 1 : Nat) : Int))), (0, .ref k), (1, .ref h)]) 0 rfl (by omega) rfl ?_
        refine x_goto (tgt := 2) C dX1_listPlans_29 (by decide) ?_
        refine x_lv [1, 2, 0] rfl ?_
        exact ih2 ((i + 1), (n1 + 1), fb2_23, xs2_23) ⟨(show (i + 1) ≤ 2 ^ nb from by omega), (show xs2_23.length = (n1 + 1) from g23_l), (show LsA fb2_23 xs2_23 from g23_s), (show xs2_23 = ((List.range (i + 1)).filter (fun q_ => ftH w q_ nb)) from filt_step he (c18) g23_o g23_p)⟩ (show 2 ^ nb - (i + 1) < 2 ^ nb - i from by omega)
  · exact ⟨(show 0 ≤ 2 ^ nb from by omega), (show ([]).length = 0 from rfl), (show LsA fb ([]) from LsA.nil), (show ([]) = ((List.range 0).filter (fun q_ => ftH w q_ nb)) from rfl)⟩

set_option maxHeartbeats 4000000 in
set_option maxRecDepth 100000 in
theorem c_X10_walk_1 (l : Launch) (E : EV) (k : Nat) (lk : Nat) (la_ : Nat) (lb_ : Nat) (lf_ : Nat) (lt_ : Nat) (nl : Nat) (s0 : Int) (lf : Nat → Int) (lt : Nat → Int) (h : Nat) (hb : Nat) (ha : Nat) (hc : Nat) (sg : Int) (fb : Nat → Int) (n : Nat) (pt : Nat) (seen : Nat) (way : Nat) (xs : List Nat) (hnl : nl ≤ 14) (hlf : ∀ j_ : Nat, j_ < nl → 0 ≤ lf j_ ∧ lf j_ ≤ 5) (hlt : ∀ j_ : Nat, j_ < nl → 0 ≤ lt j_ ∧ lt j_ ≤ 5) (hcap : (wk nl lf lt 1 pt seen way).length + xs.length ≤ 2002) (hpt : pt ≤ 5) (hun : un seen < 1) (hs0 : Nat.testBit seen 0 = true) (hs5 : Nat.testBit seen 5 = false) (hsn : seen < 64) (hw : way < 16384) (hlen : xs.length = n) (hls : LsA fb xs) (hso : xs.Pairwise (· ≤ ·)) (hbd : ∀ x_ ∈ xs, x_ < 16384) : MC l E yX10_walk cX10_walk 8 (none) ({ frames := 1, cells := 0, slots := 0, locals := 22 }) [.ref k, .int (iI (pt : Int)), .int (iI (seen : Int)), .int (iI (way : Int)), .ref h] [(k, ob 9 [.ref lk, .int (iI s0), .ref lk]), (lk, ob 2 [.ref la_, .ref lb_, .int (iI (nl : Int)), .ref lf_, .ref lt_]), (lf_, ia E 14 lf), (lt_, ia E 14 lt), (h, ob 7 [.ref hb, .ref ha, .ref hc, .int (iI (n : Int)), .int (iI sg)]), (hb, ia E 2002 fb)] (fun v_ w_ => ∃ (n2 : Nat) (fb2 : Nat → Int) (xs2 : List Nat), v_ = none ∧ w_ = [(k, ob 9 [.ref lk, .int (iI s0), .ref lk]), (lk, ob 2 [.ref la_, .ref lb_, .int (iI (nl : Int)), .ref lf_, .ref lt_]), (lf_, ia E 14 lf), (lt_, ia E 14 lt), (h, ob 7 [.ref hb, .ref ha, .ref hc, .int (iI (n2 : Int)), .int (iI sg)]), (hb, ia E 2002 fb2)] ∧ (xs2.length = n2) ∧ (LsA fb2 xs2) ∧ (xs2.Pairwise (· ≤ ·)) ∧ (xs2.Perm (wk nl lf lt 1 pt seen way ++ xs)) ∧ (∀ x_ ∈ xs2, x_ < 16384)) := by
  refine MC.of (by decide +kernel) (Nat.le_of_ble_eq_true rfl) ?_
  intro p_ e_ s_ m_ args_ below_ meth_ c_ A_ C hr hnm
  have C : Cx p_ s_ m_ args_ meth_ c_ E A_ 8 cX10_walk RX10 := C
  show Wx _ _ _ _ _ _ _ _ _ _ _ _ _ _ _ _ 0 [(0, .ref k), (1, .int (iI (pt : Int))), (2, .int (iI (seen : Int))), (3, .int (iI (way : Int))), (4, .ref h)] [] [(k, ob 9 [.ref lk, .int (iI s0), .ref lk]), (lk, ob 2 [.ref la_, .ref lb_, .int (iI (nl : Int)), .ref lf_, .ref lt_]), (lf_, ia E 14 lf), (lt_, ia E 14 lt), (h, ob 7 [.ref hb, .ref ha, .ref hc, .int (iI (n : Int)), .int (iI sg)]), (hb, ia E 2002 fb)]
  refine x_iconst (pc' := 1) C dX10_walk_0 rfl ?_
  refine x_istore (pc' := 3) (lv' := [(5, .int (iI 0)), (0, .ref k), (1, .int (iI (pt : Int))), (2, .int (iI (seen : Int))), (3, .int (iI (way : Int))), (4, .ref h)]) C dX10_walk_1 rfl (by decide) rfl ?_
  refine x_lv [1, 2, 3, 4, 5, 0] rfl ?_
  refine x_loop (α := (Nat) × (Nat) × (Nat → Int) × (List Nat)) (fun a_ => (a_.1 ≤ nl) ∧ (a_.2.2.2.length = a_.2.1) ∧ (LsA a_.2.2.1 a_.2.2.2) ∧ (a_.2.2.2.Pairwise (· ≤ ·)) ∧ (a_.2.2.2.Perm (fm (wkF nl lf lt 0 pt seen way) a_.1 ++ xs)) ∧ (∀ x_ ∈ a_.2.2.2, x_ < 16384)) (fun a_ => nl - a_.1) (fun a_ => [(0, .ref k), (1, .int (iI (pt : Int))), (2, .int (iI (seen : Int))), (3, .int (iI (way : Int))), (4, .ref h), (5, .int (iI (a_.1 : Int)))]) (fun a_ => [(k, ob 9 [.ref lk, .int (iI s0), .ref lk]), (lk, ob 2 [.ref la_, .ref lb_, .int (iI (nl : Int)), .ref lf_, .ref lt_]), (lf_, ia E 14 lf), (lt_, ia E 14 lt), (h, ob 7 [.ref hb, .ref ha, .ref hc, .int (iI (a_.2.1 : Int)), .int (iI sg)]), (hb, ia E 2002 a_.2.2.1)]) ?_ (0, n, fb, xs) ?_
  · intro a_ hI_ ih3
    obtain ⟨i, n1, f1, xs1⟩ := a_
    obtain ⟨hi, hl, hs, ho, hp_, hb_⟩ := hI_
    replace hi : i ≤ nl := hi
    replace hl : xs1.length = n1 := hl
    replace hs : LsA f1 xs1 := hs
    replace ho : xs1.Pairwise (· ≤ ·) := ho
    replace hp_ : xs1.Perm (fm (wkF nl lf lt 0 pt seen way) i ++ xs) := hp_
    replace hb_ : ∀ x_ ∈ xs1, x_ < 16384 := hb_
    show Wx _ _ _ _ _ _ _ _ _ _ _ _ _ _ _ _ 3 [(0, .ref k), (1, .int (iI (pt : Int))), (2, .int (iI (seen : Int))), (3, .int (iI (way : Int))), (4, .ref h), (5, .int (iI (i : Int)))] [] [(k, ob 9 [.ref lk, .int (iI s0), .ref lk]), (lk, ob 2 [.ref la_, .ref lb_, .int (iI (nl : Int)), .ref lf_, .ref lt_]), (lf_, ia E 14 lf), (lt_, ia E 14 lt), (h, ob 7 [.ref hb, .ref ha, .ref hc, .int (iI (n1 : Int)), .int (iI sg)]), (hb, ia E 2002 f1)]
    refine x_iload (pc' := 5) C 5 dX10_walk_3 rfl rfl ?_
    refine x_aload_n (pc' := 6) C 0 dX10_walk_5 rfl rfl ?_
    refine x_get (pc' := 9) C dX10_walk_6 rfl ff_X10_9_9 0 rfl rfl ?_
    refine x_get (pc' := 12) C dX10_walk_9 rfl ff_X10_19_2 1 rfl rfl ?_
    refine x_icmp_ge (pc' := 15) (tgt := 99) C dX10_walk_12 rfl (by decide) (by omega) (by omega) (fun c12 => ?_) (fun c12 => ?_)
    ·
      exact x_vret C hr dX10_walk_99 ⟨n1, f1, xs1, rfl, rfl, (show xs1.length = n1 from hl), (show LsA f1 xs1 from hs), (show xs1.Pairwise (· ≤ ·) from ho), (show xs1.Perm (wk nl lf lt 1 pt seen way ++ xs) from by have e_ : i = nl := (by omega); subst e_; exact hp_), (show ∀ x_ ∈ xs1, x_ < 16384 from hb_)⟩
    ·
      have hf1 := hlf i (by omega)
      have ht1 := hlt i (by omega)
      refine x_aload_n (pc' := 16) C 0 dX10_walk_15 rfl rfl ?_
      refine x_get (pc' := 19) C dX10_walk_16 rfl ff_X10_9_9 0 rfl rfl ?_
      refine x_get (pc' := 22) C dX10_walk_19 rfl ff_X10_25_2 1 rfl rfl ?_
      refine x_iload (pc' := 24) C 5 dX10_walk_22 rfl rfl ?_
      refine x_iald (pc' := 25) C i dX10_walk_24 rfl 3 rfl (by omega) (by omega) (by omega) ?_
      refine x_top (b := .int (iI (((lt i).toNat : Nat) : Int))) (by congr 2; omega) ?_
      refine x_istore (pc' := 27) (lv' := [(6, .int (iI (((lt i).toNat : Nat) : Int))), (0, .ref k), (1, .int (iI (pt : Int))), (2, .int (iI (seen : Int))), (3, .int (iI (way : Int))), (4, .ref h), (5, .int (iI (i : Int)))]) C dX10_walk_25 rfl (by decide) rfl ?_
      refine x_aload_n (pc' := 28) C 1 dX10_walk_27 rfl rfl ?_
      refine x_get (pc' := 31) C dX10_walk_28 rfl ff_X10_9_9 0 rfl rfl ?_
      refine x_get (pc' := 34) C dX10_walk_31 rfl ff_X10_29_2 1 rfl rfl ?_
      refine x_iload (pc' := 36) C 6 dX10_walk_34 rfl rfl ?_
      refine x_iald (pc' := 37) C i dX10_walk_36 rfl 2 rfl (by omega) (by omega) (by omega) ?_
      refine x_iload_n (pc' := 38) C 2 dX10_walk_37 rfl rfl ?_
      refine x_icmp_ne (pc' := 41) (tgt := 93) C dX10_walk_38 rfl (by decide) (by omega) (by omega) (fun c38 => ?_) (fun c38 => ?_)
      ·
        refine x_iinc (pc' := 96) (lv' := [(5, .int (iI ((i : Int) + 1))), (6, .int (iI (((lt i).toNat : Nat) : Int))), (0, .ref k), (1, .int (iI (pt : Int))), (2, .int (iI (seen : Int))), (3, .int (iI (way : Int))), (4, .ref h)]) C 6 dX10_walk_93 rfl (by decide) rfl rfl ?_
        refine x_lvI (lv' := [(5, .int (iI ((i + 1 : Nat) : Int))), (6, .int (iI (((lt i).toNat : Nat) : Int))), (0, .ref k), (1, .int (iI (pt : Int))), (2, .int (iI (seen : Int))), (3, .int (iI (way : Int))), (4, .ref h)]) 0 rfl (by omega) rfl ?_
        refine x_goto (tgt := 3) C dX10_walk_96 (by decide) ?_
        refine x_lv [2, 3, 4, 5, 6, 0] rfl ?_
        exact ih3 ((i + 1), n1, f1, xs1) ⟨(show (i + 1) ≤ nl from by omega), (show xs1.length = n1 from hl), (show LsA f1 xs1 from hs), (show xs1.Pairwise (· ≤ ·) from ho), (show xs1.Perm (fm (wkF nl lf lt 0 pt seen way) (i + 1) ++ xs) from fm_skip hp_ (by unfold wkF; rw [if_pos (by first | exact Or.inl c38 | exact Or.inr c47)])), (show ∀ x_ ∈ xs1, x_ < 16384 from hb_)⟩ (show nl - (i + 1) < nl - i from by omega)
      ·
        refine x_iload_n (pc' := 42) C 3 dX10_walk_41 rfl rfl ?_
        refine x_iload (pc' := 44) C 0 dX10_walk_42 rfl rfl ?_
        refine x_callN (pc' := 47) (As := [.int (iI (seen : Int)), .int (iI (((lt i).toNat : Nat) : Int))]) (rest := []) C cn_X10_32 dX10_walk_44 rfl (c_X11_holds l E seen ((lt i).toNat) (show seen < 2147483648 from by omega) (show ((lt i).toNat) < 32 from by omega)) mm_X11_holds (hstk := rfl) (hlen := rfl) (hcat := Nat.le_of_ble_eq_true rfl) (isC := []) (isR := [0, 1, 2, 3, 4, 5]) (wr := [(k, ob 9 [.ref lk, .int (iI s0), .ref lk]), (lk, ob 2 [.ref la_, .ref lb_, .int (iI (nl : Int)), .ref lf_, .ref lt_]), (lf_, ia E 14 lf), (lt_, ia E 14 lt), (h, ob 7 [.ref hb, .ref ha, .ref hc, .int (iI (n1 : Int)), .int (iI sg)]), (hb, ia E 2002 f1)]) (hC := rfl) (hR := rfl) (hnC := rfl) (hn := rfl) (hdis := by decide) (hR1 := ⟨Nat.le_of_ble_eq_true rfl, Nat.le_of_ble_eq_true rfl⟩) (hcs := ⟨Nat.le_of_ble_eq_true rfl, Nat.le_of_ble_eq_true rfl⟩) (fun v_ w_ hp_ => ?_)
        obtain ⟨rfl, rfl⟩ := hp_
        show Wx _ _ _ _ _ _ _ _ _ _ _ _ _ _ _ _ 47 [(6, .int (iI (((lt i).toNat : Nat) : Int))), (0, .ref k), (1, .int (iI (pt : Int))), (2, .int (iI (seen : Int))), (3, .int (iI (way : Int))), (4, .ref h), (5, .int (iI (i : Int)))] [.int (iI (bI (seen.testBit ((lt i).toNat) = true)))] [(k, ob 9 [.ref lk, .int (iI s0), .ref lk]), (lk, ob 2 [.ref la_, .ref lb_, .int (iI (nl : Int)), .ref lf_, .ref lt_]), (lf_, ia E 14 lf), (lt_, ia E 14 lt), (h, ob 7 [.ref hb, .ref ha, .ref hc, .int (iI (n1 : Int)), .int (iI sg)]), (hb, ia E 2002 f1)]
        refine x_if_eq (pc' := 50) (tgt := 53) C dX10_walk_47 rfl (by decide) (bI_rng) (fun c47 => ?_) (fun c47 => ?_)
        ·
          replace c47 := bI_z c47
          have hnz : ¬ lt i = 0 := by intro hh; apply c47; rw [hh]; exact hs0
          have hob : way ||| 2 ^ i < 2 ^ 14 := or_bd (N := 14) hw (by omega)
          refine x_iload_n (pc' := 54) C 4 dX10_walk_53 rfl rfl ?_
          refine x_iconst (pc' := 55) C dX10_walk_54 rfl ?_
          refine x_iload (pc' := 57) C 6 dX10_walk_55 rfl rfl ?_
          refine x_ishl (pc' := 58) (z := (iI ((2 ^ i : Nat) : Int))) C dX10_walk_57 rfl (bt_shl (by omega)) ?_
          refine x_ior (pc' := 59) (z := (iI ((way ||| 2 ^ i : Nat) : Int))) C dX10_walk_58 rfl (bt_or _ _) ?_
          refine x_istore (pc' := 61) (lv' := [(7, .int (iI ((way ||| 2 ^ i : Nat) : Int))), (6, .int (iI (((lt i).toNat : Nat) : Int))), (0, .ref k), (1, .int (iI (pt : Int))), (2, .int (iI (seen : Int))), (3, .int (iI (way : Int))), (4, .ref h), (5, .int (iI (i : Int)))]) C dX10_walk_59 rfl (by decide) rfl ?_
          refine x_iload (pc' := 63) C 1 dX10_walk_61 rfl rfl ?_
          refine x_iconst (pc' := 64) C dX10_walk_63 rfl ?_
          refine x_icmp_ne (pc' := 67) (tgt := 77) C dX10_walk_64 rfl (by decide) (by omega) (by omega) (fun c64 => ?_) (fun c64 => ?_)
          ·
            exact absurd (un_less (show 0 < (lt i).toNat by omega) (by omega) c47) (by omega)
          ·
            have hFi : (wkF nl lf lt 0 pt seen way) i = [way ||| 2 ^ i] := by unfold wkF; rw [if_neg (by intro hh; rcases hh with hh | hh; exact hh (by omega); exact c47 hh), if_pos (by omega)]
            have hcx := fm_cap hp_ (show i < nl by omega) hcap
            rw [hFi, hl, List.length_singleton] at hcx
            refine x_aload (pc' := 69) C 6 dX10_walk_67 rfl rfl ?_
            refine x_iload (pc' := 71) C 0 dX10_walk_69 rfl rfl ?_
            refine x_callV (pc' := 74) (As := [.int (iI ((way ||| 2 ^ i : Nat) : Int))]) (rest := []) (q0 := 0) C rfl rfl cv_X10_36_X8 dX10_walk_71 rfl (c_X8_insert l E h hb ha hc n1 (way ||| 2 ^ i) sg f1 xs1 (show n1 < 2002 from by omega) (show (way ||| 2 ^ i) < 1000000 from by omega) (show xs1.length = n1 from hl) (show LsA f1 xs1 from hs) (show xs1.Pairwise (· ≤ ·) from ho) (show ∀ j (h : j < xs1.length), xs1[j] < 1000000 from get_bd (fun x_ hx_ => Nat.lt_trans (hb_ x_ hx_) (by decide)))) mm_X8_insert (hstk := rfl) (hlen := rfl) (hcat := Nat.le_of_ble_eq_true rfl) (isC := [4, 5]) (isR := [0, 1, 2, 3]) (wr := [(k, ob 9 [.ref lk, .int (iI s0), .ref lk]), (lk, ob 2 [.ref la_, .ref lb_, .int (iI (nl : Int)), .ref lf_, .ref lt_]), (lf_, ia E 14 lf), (lt_, ia E 14 lt)]) (hC := rfl) (hR := rfl) (hnC := rfl) (hn := rfl) (hdis := by decide) (hR1 := ⟨Nat.le_of_ble_eq_true rfl, Nat.le_of_ble_eq_true rfl⟩) (hcs := ⟨Nat.le_of_ble_eq_true rfl, Nat.le_of_ble_eq_true rfl⟩) (fun v_ w_ hp_ => ?_)
            obtain ⟨fb2_71, xs2_71, rfl, rfl, g71_l, g71_s, g71_o, g71_p⟩ := hp_
            replace g71_l : xs2_71.length = n1 + 1 := g71_l
            replace g71_s : LsA fb2_71 xs2_71 := g71_s
            replace g71_o : xs2_71.Pairwise (· ≤ ·) := g71_o
            replace g71_p : xs2_71.Perm ((way ||| 2 ^ i) :: xs1) := g71_p
            show Wx _ _ _ _ _ _ _ _ _ _ _ _ _ _ _ _ 74 [(7, .int (iI ((way ||| 2 ^ i : Nat) : Int))), (6, .int (iI (((lt i).toNat : Nat) : Int))), (0, .ref k), (1, .int (iI (pt : Int))), (2, .int (iI (seen : Int))), (3, .int (iI (way : Int))), (4, .ref h), (5, .int (iI (i : Int)))] [] [(k, ob 9 [.ref lk, .int (iI s0), .ref lk]), (lk, ob 2 [.ref la_, .ref lb_, .int (iI (nl : Int)), .ref lf_, .ref lt_]), (lf_, ia E 14 lf), (lt_, ia E 14 lt), (h, ob 7 [.ref hb, .ref ha, .ref hc, .int (iI ((n1 + 1 : Nat) : Int)), .int (iI sg)]), (hb, ia E 2002 fb2_71)]
            refine x_goto (tgt := 93) C dX10_walk_74 (by decide) ?_
            refine x_iinc (pc' := 96) (lv' := [(5, .int (iI ((i : Int) + 1))), (7, .int (iI ((way ||| 2 ^ i : Nat) : Int))), (6, .int (iI (((lt i).toNat : Nat) : Int))), (0, .ref k), (1, .int (iI (pt : Int))), (2, .int (iI (seen : Int))), (3, .int (iI (way : Int))), (4, .ref h)]) C 7 dX10_walk_93 rfl (by decide) rfl rfl ?_
            refine x_lvI (lv' := [(5, .int (iI ((i + 1 : Nat) : Int))), (7, .int (iI ((way ||| 2 ^ i : Nat) : Int))), (6, .int (iI (((lt i).toNat : Nat) : Int))), (0, .ref k), (1, .int (iI (pt : Int))), (2, .int (iI (seen : Int))), (3, .int (iI (way : Int))), (4, .ref h)]) 0 rfl (by omega) rfl ?_
            refine x_goto (tgt := 3) C dX10_walk_96 (by decide) ?_
            refine x_lv [3, 4, 5, 6, 7, 0] rfl ?_
            exact ih3 ((i + 1), (n1 + 1), fb2_71, xs2_71) ⟨(show (i + 1) ≤ nl from by omega), (show xs2_71.length = (n1 + 1) from g71_l), (show LsA fb2_71 xs2_71 from g71_s), (show xs2_71.Pairwise (· ≤ ·) from g71_o), (show xs2_71.Perm (fm (wkF nl lf lt 0 pt seen way) (i + 1) ++ xs) from fm_perm hp_ hFi g71_p), (show ∀ x_ ∈ xs2_71, x_ < 16384 from mem_bd (L := [way ||| 2 ^ i]) g71_p (one_bd (or_bd (N := 14) hw (by omega))) hb_)⟩ (show nl - (i + 1) < nl - i from by omega)
        ·
          replace c47 := bI_nz c47
          refine x_goto (tgt := 93) C dX10_walk_50 (by decide) ?_
          refine x_iinc (pc' := 96) (lv' := [(5, .int (iI ((i : Int) + 1))), (6, .int (iI (((lt i).toNat : Nat) : Int))), (0, .ref k), (1, .int (iI (pt : Int))), (2, .int (iI (seen : Int))), (3, .int (iI (way : Int))), (4, .ref h)]) C 6 dX10_walk_93 rfl (by decide) rfl rfl ?_
          refine x_lvI (lv' := [(5, .int (iI ((i + 1 : Nat) : Int))), (6, .int (iI (((lt i).toNat : Nat) : Int))), (0, .ref k), (1, .int (iI (pt : Int))), (2, .int (iI (seen : Int))), (3, .int (iI (way : Int))), (4, .ref h)]) 0 rfl (by omega) rfl ?_
          refine x_goto (tgt := 3) C dX10_walk_96 (by decide) ?_
          refine x_lv [2, 3, 4, 5, 6, 0] rfl ?_
          exact ih3 ((i + 1), n1, f1, xs1) ⟨(show (i + 1) ≤ nl from by omega), (show xs1.length = n1 from hl), (show LsA f1 xs1 from hs), (show xs1.Pairwise (· ≤ ·) from ho), (show xs1.Perm (fm (wkF nl lf lt 0 pt seen way) (i + 1) ++ xs) from fm_skip hp_ (by unfold wkF; rw [if_pos (by first | exact Or.inl c38 | exact Or.inr c47)])), (show ∀ x_ ∈ xs1, x_ < 16384 from hb_)⟩ (show nl - (i + 1) < nl - i from by omega)
  · exact ⟨(show 0 ≤ nl from by omega), (show xs.length = n from hlen), (show LsA fb xs from hls), (show xs.Pairwise (· ≤ ·) from hso), (show xs.Perm (fm (wkF nl lf lt 0 pt seen way) 0 ++ xs) from List.Perm.refl _), (show ∀ x_ ∈ xs, x_ < 16384 from hbd)⟩

set_option maxHeartbeats 4000000 in
set_option maxRecDepth 100000 in
theorem c_X10_walk_2 (l : Launch) (E : EV) (k : Nat) (lk : Nat) (la_ : Nat) (lb_ : Nat) (lf_ : Nat) (lt_ : Nat) (nl : Nat) (s0 : Int) (lf : Nat → Int) (lt : Nat → Int) (h : Nat) (hb : Nat) (ha : Nat) (hc : Nat) (sg : Int) (fb : Nat → Int) (n : Nat) (pt : Nat) (seen : Nat) (way : Nat) (xs : List Nat) (hnl : nl ≤ 14) (hlf : ∀ j_ : Nat, j_ < nl → 0 ≤ lf j_ ∧ lf j_ ≤ 5) (hlt : ∀ j_ : Nat, j_ < nl → 0 ≤ lt j_ ∧ lt j_ ≤ 5) (hcap : (wk nl lf lt 2 pt seen way).length + xs.length ≤ 2002) (hpt : pt ≤ 5) (hun : un seen < 2) (hs0 : Nat.testBit seen 0 = true) (hs5 : Nat.testBit seen 5 = false) (hsn : seen < 64) (hw : way < 16384) (hlen : xs.length = n) (hls : LsA fb xs) (hso : xs.Pairwise (· ≤ ·)) (hbd : ∀ x_ ∈ xs, x_ < 16384) : MC l E yX10_walk cX10_walk 8 (none) ({ frames := 2, cells := 0, slots := 0, locals := 49 }) [.ref k, .int (iI (pt : Int)), .int (iI (seen : Int)), .int (iI (way : Int)), .ref h] [(k, ob 9 [.ref lk, .int (iI s0), .ref lk]), (lk, ob 2 [.ref la_, .ref lb_, .int (iI (nl : Int)), .ref lf_, .ref lt_]), (lf_, ia E 14 lf), (lt_, ia E 14 lt), (h, ob 7 [.ref hb, .ref ha, .ref hc, .int (iI (n : Int)), .int (iI sg)]), (hb, ia E 2002 fb)] (fun v_ w_ => ∃ (n2 : Nat) (fb2 : Nat → Int) (xs2 : List Nat), v_ = none ∧ w_ = [(k, ob 9 [.ref lk, .int (iI s0), .ref lk]), (lk, ob 2 [.ref la_, .ref lb_, .int (iI (nl : Int)), .ref lf_, .ref lt_]), (lf_, ia E 14 lf), (lt_, ia E 14 lt), (h, ob 7 [.ref hb, .ref ha, .ref hc, .int (iI (n2 : Int)), .int (iI sg)]), (hb, ia E 2002 fb2)] ∧ (xs2.length = n2) ∧ (LsA fb2 xs2) ∧ (xs2.Pairwise (· ≤ ·)) ∧ (xs2.Perm (wk nl lf lt 2 pt seen way ++ xs)) ∧ (∀ x_ ∈ xs2, x_ < 16384)) := by
  refine MC.of (by decide +kernel) (Nat.le_of_ble_eq_true rfl) ?_
  intro p_ e_ s_ m_ args_ below_ meth_ c_ A_ C hr hnm
  have C : Cx p_ s_ m_ args_ meth_ c_ E A_ 8 cX10_walk RX10 := C
  show Wx _ _ _ _ _ _ _ _ _ _ _ _ _ _ _ _ 0 [(0, .ref k), (1, .int (iI (pt : Int))), (2, .int (iI (seen : Int))), (3, .int (iI (way : Int))), (4, .ref h)] [] [(k, ob 9 [.ref lk, .int (iI s0), .ref lk]), (lk, ob 2 [.ref la_, .ref lb_, .int (iI (nl : Int)), .ref lf_, .ref lt_]), (lf_, ia E 14 lf), (lt_, ia E 14 lt), (h, ob 7 [.ref hb, .ref ha, .ref hc, .int (iI (n : Int)), .int (iI sg)]), (hb, ia E 2002 fb)]
  refine x_iconst (pc' := 1) C dX10_walk_0 rfl ?_
  refine x_istore (pc' := 3) (lv' := [(5, .int (iI 0)), (0, .ref k), (1, .int (iI (pt : Int))), (2, .int (iI (seen : Int))), (3, .int (iI (way : Int))), (4, .ref h)]) C dX10_walk_1 rfl (by decide) rfl ?_
  refine x_lv [1, 2, 3, 4, 5, 0] rfl ?_
  refine x_loop (α := (Nat) × (Nat) × (Nat → Int) × (List Nat)) (fun a_ => (a_.1 ≤ nl) ∧ (a_.2.2.2.length = a_.2.1) ∧ (LsA a_.2.2.1 a_.2.2.2) ∧ (a_.2.2.2.Pairwise (· ≤ ·)) ∧ (a_.2.2.2.Perm (fm (wkF nl lf lt 1 pt seen way) a_.1 ++ xs)) ∧ (∀ x_ ∈ a_.2.2.2, x_ < 16384)) (fun a_ => nl - a_.1) (fun a_ => [(0, .ref k), (1, .int (iI (pt : Int))), (2, .int (iI (seen : Int))), (3, .int (iI (way : Int))), (4, .ref h), (5, .int (iI (a_.1 : Int)))]) (fun a_ => [(k, ob 9 [.ref lk, .int (iI s0), .ref lk]), (lk, ob 2 [.ref la_, .ref lb_, .int (iI (nl : Int)), .ref lf_, .ref lt_]), (lf_, ia E 14 lf), (lt_, ia E 14 lt), (h, ob 7 [.ref hb, .ref ha, .ref hc, .int (iI (a_.2.1 : Int)), .int (iI sg)]), (hb, ia E 2002 a_.2.2.1)]) ?_ (0, n, fb, xs) ?_
  · intro a_ hI_ ih3
    obtain ⟨i, n1, f1, xs1⟩ := a_
    obtain ⟨hi, hl, hs, ho, hp_, hb_⟩ := hI_
    replace hi : i ≤ nl := hi
    replace hl : xs1.length = n1 := hl
    replace hs : LsA f1 xs1 := hs
    replace ho : xs1.Pairwise (· ≤ ·) := ho
    replace hp_ : xs1.Perm (fm (wkF nl lf lt 1 pt seen way) i ++ xs) := hp_
    replace hb_ : ∀ x_ ∈ xs1, x_ < 16384 := hb_
    show Wx _ _ _ _ _ _ _ _ _ _ _ _ _ _ _ _ 3 [(0, .ref k), (1, .int (iI (pt : Int))), (2, .int (iI (seen : Int))), (3, .int (iI (way : Int))), (4, .ref h), (5, .int (iI (i : Int)))] [] [(k, ob 9 [.ref lk, .int (iI s0), .ref lk]), (lk, ob 2 [.ref la_, .ref lb_, .int (iI (nl : Int)), .ref lf_, .ref lt_]), (lf_, ia E 14 lf), (lt_, ia E 14 lt), (h, ob 7 [.ref hb, .ref ha, .ref hc, .int (iI (n1 : Int)), .int (iI sg)]), (hb, ia E 2002 f1)]
    refine x_iload (pc' := 5) C 5 dX10_walk_3 rfl rfl ?_
    refine x_aload_n (pc' := 6) C 0 dX10_walk_5 rfl rfl ?_
    refine x_get (pc' := 9) C dX10_walk_6 rfl ff_X10_9_9 0 rfl rfl ?_
    refine x_get (pc' := 12) C dX10_walk_9 rfl ff_X10_19_2 1 rfl rfl ?_
    refine x_icmp_ge (pc' := 15) (tgt := 99) C dX10_walk_12 rfl (by decide) (by omega) (by omega) (fun c12 => ?_) (fun c12 => ?_)
    ·
      exact x_vret C hr dX10_walk_99 ⟨n1, f1, xs1, rfl, rfl, (show xs1.length = n1 from hl), (show LsA f1 xs1 from hs), (show xs1.Pairwise (· ≤ ·) from ho), (show xs1.Perm (wk nl lf lt 2 pt seen way ++ xs) from by have e_ : i = nl := (by omega); subst e_; exact hp_), (show ∀ x_ ∈ xs1, x_ < 16384 from hb_)⟩
    ·
      have hf1 := hlf i (by omega)
      have ht1 := hlt i (by omega)
      refine x_aload_n (pc' := 16) C 0 dX10_walk_15 rfl rfl ?_
      refine x_get (pc' := 19) C dX10_walk_16 rfl ff_X10_9_9 0 rfl rfl ?_
      refine x_get (pc' := 22) C dX10_walk_19 rfl ff_X10_25_2 1 rfl rfl ?_
      refine x_iload (pc' := 24) C 5 dX10_walk_22 rfl rfl ?_
      refine x_iald (pc' := 25) C i dX10_walk_24 rfl 3 rfl (by omega) (by omega) (by omega) ?_
      refine x_top (b := .int (iI (((lt i).toNat : Nat) : Int))) (by congr 2; omega) ?_
      refine x_istore (pc' := 27) (lv' := [(6, .int (iI (((lt i).toNat : Nat) : Int))), (0, .ref k), (1, .int (iI (pt : Int))), (2, .int (iI (seen : Int))), (3, .int (iI (way : Int))), (4, .ref h), (5, .int (iI (i : Int)))]) C dX10_walk_25 rfl (by decide) rfl ?_
      refine x_aload_n (pc' := 28) C 1 dX10_walk_27 rfl rfl ?_
      refine x_get (pc' := 31) C dX10_walk_28 rfl ff_X10_9_9 0 rfl rfl ?_
      refine x_get (pc' := 34) C dX10_walk_31 rfl ff_X10_29_2 1 rfl rfl ?_
      refine x_iload (pc' := 36) C 6 dX10_walk_34 rfl rfl ?_
      refine x_iald (pc' := 37) C i dX10_walk_36 rfl 2 rfl (by omega) (by omega) (by omega) ?_
      refine x_iload_n (pc' := 38) C 2 dX10_walk_37 rfl rfl ?_
      refine x_icmp_ne (pc' := 41) (tgt := 93) C dX10_walk_38 rfl (by decide) (by omega) (by omega) (fun c38 => ?_) (fun c38 => ?_)
      ·
        refine x_iinc (pc' := 96) (lv' := [(5, .int (iI ((i : Int) + 1))), (6, .int (iI (((lt i).toNat : Nat) : Int))), (0, .ref k), (1, .int (iI (pt : Int))), (2, .int (iI (seen : Int))), (3, .int (iI (way : Int))), (4, .ref h)]) C 6 dX10_walk_93 rfl (by decide) rfl rfl ?_
        refine x_lvI (lv' := [(5, .int (iI ((i + 1 : Nat) : Int))), (6, .int (iI (((lt i).toNat : Nat) : Int))), (0, .ref k), (1, .int (iI (pt : Int))), (2, .int (iI (seen : Int))), (3, .int (iI (way : Int))), (4, .ref h)]) 0 rfl (by omega) rfl ?_
        refine x_goto (tgt := 3) C dX10_walk_96 (by decide) ?_
        refine x_lv [2, 3, 4, 5, 6, 0] rfl ?_
        exact ih3 ((i + 1), n1, f1, xs1) ⟨(show (i + 1) ≤ nl from by omega), (show xs1.length = n1 from hl), (show LsA f1 xs1 from hs), (show xs1.Pairwise (· ≤ ·) from ho), (show xs1.Perm (fm (wkF nl lf lt 1 pt seen way) (i + 1) ++ xs) from fm_skip hp_ (by unfold wkF; rw [if_pos (by first | exact Or.inl c38 | exact Or.inr c47)])), (show ∀ x_ ∈ xs1, x_ < 16384 from hb_)⟩ (show nl - (i + 1) < nl - i from by omega)
      ·
        refine x_iload_n (pc' := 42) C 3 dX10_walk_41 rfl rfl ?_
        refine x_iload (pc' := 44) C 0 dX10_walk_42 rfl rfl ?_
        refine x_callN (pc' := 47) (As := [.int (iI (seen : Int)), .int (iI (((lt i).toNat : Nat) : Int))]) (rest := []) C cn_X10_32 dX10_walk_44 rfl (c_X11_holds l E seen ((lt i).toNat) (show seen < 2147483648 from by omega) (show ((lt i).toNat) < 32 from by omega)) mm_X11_holds (hstk := rfl) (hlen := rfl) (hcat := Nat.le_of_ble_eq_true rfl) (isC := []) (isR := [0, 1, 2, 3, 4, 5]) (wr := [(k, ob 9 [.ref lk, .int (iI s0), .ref lk]), (lk, ob 2 [.ref la_, .ref lb_, .int (iI (nl : Int)), .ref lf_, .ref lt_]), (lf_, ia E 14 lf), (lt_, ia E 14 lt), (h, ob 7 [.ref hb, .ref ha, .ref hc, .int (iI (n1 : Int)), .int (iI sg)]), (hb, ia E 2002 f1)]) (hC := rfl) (hR := rfl) (hnC := rfl) (hn := rfl) (hdis := by decide) (hR1 := ⟨Nat.le_of_ble_eq_true rfl, Nat.le_of_ble_eq_true rfl⟩) (hcs := ⟨Nat.le_of_ble_eq_true rfl, Nat.le_of_ble_eq_true rfl⟩) (fun v_ w_ hp_ => ?_)
        obtain ⟨rfl, rfl⟩ := hp_
        show Wx _ _ _ _ _ _ _ _ _ _ _ _ _ _ _ _ 47 [(6, .int (iI (((lt i).toNat : Nat) : Int))), (0, .ref k), (1, .int (iI (pt : Int))), (2, .int (iI (seen : Int))), (3, .int (iI (way : Int))), (4, .ref h), (5, .int (iI (i : Int)))] [.int (iI (bI (seen.testBit ((lt i).toNat) = true)))] [(k, ob 9 [.ref lk, .int (iI s0), .ref lk]), (lk, ob 2 [.ref la_, .ref lb_, .int (iI (nl : Int)), .ref lf_, .ref lt_]), (lf_, ia E 14 lf), (lt_, ia E 14 lt), (h, ob 7 [.ref hb, .ref ha, .ref hc, .int (iI (n1 : Int)), .int (iI sg)]), (hb, ia E 2002 f1)]
        refine x_if_eq (pc' := 50) (tgt := 53) C dX10_walk_47 rfl (by decide) (bI_rng) (fun c47 => ?_) (fun c47 => ?_)
        ·
          replace c47 := bI_z c47
          have hnz : ¬ lt i = 0 := by intro hh; apply c47; rw [hh]; exact hs0
          have hob : way ||| 2 ^ i < 2 ^ 14 := or_bd (N := 14) hw (by omega)
          refine x_iload_n (pc' := 54) C 4 dX10_walk_53 rfl rfl ?_
          refine x_iconst (pc' := 55) C dX10_walk_54 rfl ?_
          refine x_iload (pc' := 57) C 6 dX10_walk_55 rfl rfl ?_
          refine x_ishl (pc' := 58) (z := (iI ((2 ^ i : Nat) : Int))) C dX10_walk_57 rfl (bt_shl (by omega)) ?_
          refine x_ior (pc' := 59) (z := (iI ((way ||| 2 ^ i : Nat) : Int))) C dX10_walk_58 rfl (bt_or _ _) ?_
          refine x_istore (pc' := 61) (lv' := [(7, .int (iI ((way ||| 2 ^ i : Nat) : Int))), (6, .int (iI (((lt i).toNat : Nat) : Int))), (0, .ref k), (1, .int (iI (pt : Int))), (2, .int (iI (seen : Int))), (3, .int (iI (way : Int))), (4, .ref h), (5, .int (iI (i : Int)))]) C dX10_walk_59 rfl (by decide) rfl ?_
          refine x_iload (pc' := 63) C 1 dX10_walk_61 rfl rfl ?_
          refine x_iconst (pc' := 64) C dX10_walk_63 rfl ?_
          refine x_icmp_ne (pc' := 67) (tgt := 77) C dX10_walk_64 rfl (by decide) (by omega) (by omega) (fun c64 => ?_) (fun c64 => ?_)
          ·
            have hop : seen ||| 2 ^ (lt i).toNat < 2 ^ 6 := or_bd (N := 6) hsn (by omega)
            refine x_aload_n (pc' := 78) C 2 dX10_walk_77 rfl rfl ?_
            refine x_iload (pc' := 80) C 1 dX10_walk_78 rfl rfl ?_
            refine x_iload_n (pc' := 81) C 4 dX10_walk_80 rfl rfl ?_
            refine x_iconst (pc' := 82) C dX10_walk_81 rfl ?_
            refine x_iload (pc' := 84) C 1 dX10_walk_82 rfl rfl ?_
            refine x_ishl (pc' := 85) (z := (iI ((2 ^ (lt i).toNat : Nat) : Int))) C dX10_walk_84 rfl (bt_shl (by omega)) ?_
            refine x_ior (pc' := 86) (z := (iI ((seen ||| 2 ^ (lt i).toNat : Nat) : Int))) C dX10_walk_85 rfl (bt_or _ _) ?_
            refine x_iload (pc' := 88) C 0 dX10_walk_86 rfl rfl ?_
            refine x_aload (pc' := 90) C 6 dX10_walk_88 rfl rfl ?_
            have hFi : (wkF nl lf lt 1 pt seen way) i = wk nl lf lt 1 (lt i).toNat (seen ||| 2 ^ (lt i).toNat) (way ||| 2 ^ i) := by unfold wkF; rw [if_neg (by intro hh; rcases hh with hh | hh; exact hh (by omega); exact c47 hh), if_neg (by omega)]
            refine x_callV (pc' := 93) (As := [.int (iI (((lt i).toNat : Nat) : Int)), .int (iI ((seen ||| 2 ^ (lt i).toNat : Nat) : Int)), .int (iI ((way ||| 2 ^ i : Nat) : Int)), .ref h]) (rest := []) (q0 := 0) C rfl rfl cv_X10_15_X10 dX10_walk_90 rfl (c_X10_walk_1 l E k lk la_ lb_ lf_ lt_ nl s0 lf lt h hb ha hc sg f1 n1 ((lt i).toNat) (seen ||| 2 ^ (lt i).toNat) (way ||| 2 ^ i) xs1 (show nl ≤ 14 from by omega) (show ∀ j_ : Nat, j_ < nl → 0 ≤ lf j_ ∧ lf j_ ≤ 5 from hlf) (show ∀ j_ : Nat, j_ < nl → 0 ≤ lt j_ ∧ lt j_ ≤ 5 from hlt) (show (wk nl lf lt 1 ((lt i).toNat) (seen ||| 2 ^ (lt i).toNat) (way ||| 2 ^ i)).length + xs1.length ≤ 2002 from by have hcx := fm_cap hp_ (show i < nl by omega) hcap; rw [hFi] at hcx; rw [hl] at hcx; omega) (show ((lt i).toNat) ≤ 5 from by omega) (show un (seen ||| 2 ^ (lt i).toNat) < 1 from by have := un_less (show 0 < (lt i).toNat by omega) (by omega) c47; omega) (show Nat.testBit (seen ||| 2 ^ (lt i).toNat) 0 = true from by rw [Nat.testBit_or, hs0]; rfl) (show Nat.testBit (seen ||| 2 ^ (lt i).toNat) 5 = false from by rw [Nat.testBit_or, hs5, Nat.testBit_two_pow]; simp; omega) (show (seen ||| 2 ^ (lt i).toNat) < 64 from or_bd (N := 6) hsn (by omega)) (show (way ||| 2 ^ i) < 16384 from or_bd (N := 14) hw (by omega)) (show xs1.length = n1 from hl) (show LsA f1 xs1 from hs) (show xs1.Pairwise (· ≤ ·) from ho) (show ∀ x_ ∈ xs1, x_ < 16384 from hb_)) mm_X10_walk (hstk := rfl) (hlen := rfl) (hcat := Nat.le_of_ble_eq_true rfl) (isC := [0, 1, 2, 3, 4, 5]) (isR := []) (wr := []) (hC := rfl) (hR := rfl) (hnC := rfl) (hn := rfl) (hdis := by decide) (hR1 := ⟨Nat.le_of_ble_eq_true rfl, Nat.le_of_ble_eq_true rfl⟩) (hcs := ⟨Nat.le_of_ble_eq_true rfl, Nat.le_of_ble_eq_true rfl⟩) (fun v_ w_ hp_ => ?_)
            obtain ⟨n2_90, fb2_90, xs2_90, rfl, rfl, g90_l, g90_s, g90_o, g90_p, g90_b⟩ := hp_
            replace g90_l : xs2_90.length = n2_90 := g90_l
            replace g90_s : LsA fb2_90 xs2_90 := g90_s
            replace g90_o : xs2_90.Pairwise (· ≤ ·) := g90_o
            replace g90_p : xs2_90.Perm (wk nl lf lt 1 ((lt i).toNat) (seen ||| 2 ^ (lt i).toNat) (way ||| 2 ^ i) ++ xs1) := g90_p
            replace g90_b : ∀ x_ ∈ xs2_90, x_ < 16384 := g90_b
            show Wx _ _ _ _ _ _ _ _ _ _ _ _ _ _ _ _ 93 [(7, .int (iI ((way ||| 2 ^ i : Nat) : Int))), (6, .int (iI (((lt i).toNat : Nat) : Int))), (0, .ref k), (1, .int (iI (pt : Int))), (2, .int (iI (seen : Int))), (3, .int (iI (way : Int))), (4, .ref h), (5, .int (iI (i : Int)))] [] [(k, ob 9 [.ref lk, .int (iI s0), .ref lk]), (lk, ob 2 [.ref la_, .ref lb_, .int (iI (nl : Int)), .ref lf_, .ref lt_]), (lf_, ia E 14 lf), (lt_, ia E 14 lt), (h, ob 7 [.ref hb, .ref ha, .ref hc, .int (iI (n2_90 : Int)), .int (iI sg)]), (hb, ia E 2002 fb2_90)]
            refine x_iinc (pc' := 96) (lv' := [(5, .int (iI ((i : Int) + 1))), (7, .int (iI ((way ||| 2 ^ i : Nat) : Int))), (6, .int (iI (((lt i).toNat : Nat) : Int))), (0, .ref k), (1, .int (iI (pt : Int))), (2, .int (iI (seen : Int))), (3, .int (iI (way : Int))), (4, .ref h)]) C 7 dX10_walk_93 rfl (by decide) rfl rfl ?_
            refine x_lvI (lv' := [(5, .int (iI ((i + 1 : Nat) : Int))), (7, .int (iI ((way ||| 2 ^ i : Nat) : Int))), (6, .int (iI (((lt i).toNat : Nat) : Int))), (0, .ref k), (1, .int (iI (pt : Int))), (2, .int (iI (seen : Int))), (3, .int (iI (way : Int))), (4, .ref h)]) 0 rfl (by omega) rfl ?_
            refine x_goto (tgt := 3) C dX10_walk_96 (by decide) ?_
            refine x_lv [3, 4, 5, 6, 7, 0] rfl ?_
            exact ih3 ((i + 1), n2_90, fb2_90, xs2_90) ⟨(show (i + 1) ≤ nl from by omega), (show xs2_90.length = n2_90 from g90_l), (show LsA fb2_90 xs2_90 from g90_s), (show xs2_90.Pairwise (· ≤ ·) from g90_o), (show xs2_90.Perm (fm (wkF nl lf lt 1 pt seen way) (i + 1) ++ xs) from fm_perm hp_ hFi g90_p), (show ∀ x_ ∈ xs2_90, x_ < 16384 from g90_b)⟩ (show nl - (i + 1) < nl - i from by omega)
          ·
            have hFi : (wkF nl lf lt 1 pt seen way) i = [way ||| 2 ^ i] := by unfold wkF; rw [if_neg (by intro hh; rcases hh with hh | hh; exact hh (by omega); exact c47 hh), if_pos (by omega)]
            have hcx := fm_cap hp_ (show i < nl by omega) hcap
            rw [hFi, hl, List.length_singleton] at hcx
            refine x_aload (pc' := 69) C 6 dX10_walk_67 rfl rfl ?_
            refine x_iload (pc' := 71) C 0 dX10_walk_69 rfl rfl ?_
            refine x_callV (pc' := 74) (As := [.int (iI ((way ||| 2 ^ i : Nat) : Int))]) (rest := []) (q0 := 0) C rfl rfl cv_X10_36_X8 dX10_walk_71 rfl (c_X8_insert l E h hb ha hc n1 (way ||| 2 ^ i) sg f1 xs1 (show n1 < 2002 from by omega) (show (way ||| 2 ^ i) < 1000000 from by omega) (show xs1.length = n1 from hl) (show LsA f1 xs1 from hs) (show xs1.Pairwise (· ≤ ·) from ho) (show ∀ j (h : j < xs1.length), xs1[j] < 1000000 from get_bd (fun x_ hx_ => Nat.lt_trans (hb_ x_ hx_) (by decide)))) mm_X8_insert (hstk := rfl) (hlen := rfl) (hcat := Nat.le_of_ble_eq_true rfl) (isC := [4, 5]) (isR := [0, 1, 2, 3]) (wr := [(k, ob 9 [.ref lk, .int (iI s0), .ref lk]), (lk, ob 2 [.ref la_, .ref lb_, .int (iI (nl : Int)), .ref lf_, .ref lt_]), (lf_, ia E 14 lf), (lt_, ia E 14 lt)]) (hC := rfl) (hR := rfl) (hnC := rfl) (hn := rfl) (hdis := by decide) (hR1 := ⟨Nat.le_of_ble_eq_true rfl, Nat.le_of_ble_eq_true rfl⟩) (hcs := ⟨Nat.le_of_ble_eq_true rfl, Nat.le_of_ble_eq_true rfl⟩) (fun v_ w_ hp_ => ?_)
            obtain ⟨fb2_71, xs2_71, rfl, rfl, g71_l, g71_s, g71_o, g71_p⟩ := hp_
            replace g71_l : xs2_71.length = n1 + 1 := g71_l
            replace g71_s : LsA fb2_71 xs2_71 := g71_s
            replace g71_o : xs2_71.Pairwise (· ≤ ·) := g71_o
            replace g71_p : xs2_71.Perm ((way ||| 2 ^ i) :: xs1) := g71_p
            show Wx _ _ _ _ _ _ _ _ _ _ _ _ _ _ _ _ 74 [(7, .int (iI ((way ||| 2 ^ i : Nat) : Int))), (6, .int (iI (((lt i).toNat : Nat) : Int))), (0, .ref k), (1, .int (iI (pt : Int))), (2, .int (iI (seen : Int))), (3, .int (iI (way : Int))), (4, .ref h), (5, .int (iI (i : Int)))] [] [(k, ob 9 [.ref lk, .int (iI s0), .ref lk]), (lk, ob 2 [.ref la_, .ref lb_, .int (iI (nl : Int)), .ref lf_, .ref lt_]), (lf_, ia E 14 lf), (lt_, ia E 14 lt), (h, ob 7 [.ref hb, .ref ha, .ref hc, .int (iI ((n1 + 1 : Nat) : Int)), .int (iI sg)]), (hb, ia E 2002 fb2_71)]
            refine x_goto (tgt := 93) C dX10_walk_74 (by decide) ?_
            refine x_iinc (pc' := 96) (lv' := [(5, .int (iI ((i : Int) + 1))), (7, .int (iI ((way ||| 2 ^ i : Nat) : Int))), (6, .int (iI (((lt i).toNat : Nat) : Int))), (0, .ref k), (1, .int (iI (pt : Int))), (2, .int (iI (seen : Int))), (3, .int (iI (way : Int))), (4, .ref h)]) C 7 dX10_walk_93 rfl (by decide) rfl rfl ?_
            refine x_lvI (lv' := [(5, .int (iI ((i + 1 : Nat) : Int))), (7, .int (iI ((way ||| 2 ^ i : Nat) : Int))), (6, .int (iI (((lt i).toNat : Nat) : Int))), (0, .ref k), (1, .int (iI (pt : Int))), (2, .int (iI (seen : Int))), (3, .int (iI (way : Int))), (4, .ref h)]) 0 rfl (by omega) rfl ?_
            refine x_goto (tgt := 3) C dX10_walk_96 (by decide) ?_
            refine x_lv [3, 4, 5, 6, 7, 0] rfl ?_
            exact ih3 ((i + 1), (n1 + 1), fb2_71, xs2_71) ⟨(show (i + 1) ≤ nl from by omega), (show xs2_71.length = (n1 + 1) from g71_l), (show LsA fb2_71 xs2_71 from g71_s), (show xs2_71.Pairwise (· ≤ ·) from g71_o), (show xs2_71.Perm (fm (wkF nl lf lt 1 pt seen way) (i + 1) ++ xs) from fm_perm hp_ hFi g71_p), (show ∀ x_ ∈ xs2_71, x_ < 16384 from mem_bd (L := [way ||| 2 ^ i]) g71_p (one_bd (or_bd (N := 14) hw (by omega))) hb_)⟩ (show nl - (i + 1) < nl - i from by omega)
        ·
          replace c47 := bI_nz c47
          refine x_goto (tgt := 93) C dX10_walk_50 (by decide) ?_
          refine x_iinc (pc' := 96) (lv' := [(5, .int (iI ((i : Int) + 1))), (6, .int (iI (((lt i).toNat : Nat) : Int))), (0, .ref k), (1, .int (iI (pt : Int))), (2, .int (iI (seen : Int))), (3, .int (iI (way : Int))), (4, .ref h)]) C 6 dX10_walk_93 rfl (by decide) rfl rfl ?_
          refine x_lvI (lv' := [(5, .int (iI ((i + 1 : Nat) : Int))), (6, .int (iI (((lt i).toNat : Nat) : Int))), (0, .ref k), (1, .int (iI (pt : Int))), (2, .int (iI (seen : Int))), (3, .int (iI (way : Int))), (4, .ref h)]) 0 rfl (by omega) rfl ?_
          refine x_goto (tgt := 3) C dX10_walk_96 (by decide) ?_
          refine x_lv [2, 3, 4, 5, 6, 0] rfl ?_
          exact ih3 ((i + 1), n1, f1, xs1) ⟨(show (i + 1) ≤ nl from by omega), (show xs1.length = n1 from hl), (show LsA f1 xs1 from hs), (show xs1.Pairwise (· ≤ ·) from ho), (show xs1.Perm (fm (wkF nl lf lt 1 pt seen way) (i + 1) ++ xs) from fm_skip hp_ (by unfold wkF; rw [if_pos (by first | exact Or.inl c38 | exact Or.inr c47)])), (show ∀ x_ ∈ xs1, x_ < 16384 from hb_)⟩ (show nl - (i + 1) < nl - i from by omega)
  · exact ⟨(show 0 ≤ nl from by omega), (show xs.length = n from hlen), (show LsA fb xs from hls), (show xs.Pairwise (· ≤ ·) from hso), (show xs.Perm (fm (wkF nl lf lt 1 pt seen way) 0 ++ xs) from List.Perm.refl _), (show ∀ x_ ∈ xs, x_ < 16384 from hbd)⟩

set_option maxHeartbeats 4000000 in
set_option maxRecDepth 100000 in
theorem c_X10_walk_3 (l : Launch) (E : EV) (k : Nat) (lk : Nat) (la_ : Nat) (lb_ : Nat) (lf_ : Nat) (lt_ : Nat) (nl : Nat) (s0 : Int) (lf : Nat → Int) (lt : Nat → Int) (h : Nat) (hb : Nat) (ha : Nat) (hc : Nat) (sg : Int) (fb : Nat → Int) (n : Nat) (pt : Nat) (seen : Nat) (way : Nat) (xs : List Nat) (hnl : nl ≤ 14) (hlf : ∀ j_ : Nat, j_ < nl → 0 ≤ lf j_ ∧ lf j_ ≤ 5) (hlt : ∀ j_ : Nat, j_ < nl → 0 ≤ lt j_ ∧ lt j_ ≤ 5) (hcap : (wk nl lf lt 3 pt seen way).length + xs.length ≤ 2002) (hpt : pt ≤ 5) (hun : un seen < 3) (hs0 : Nat.testBit seen 0 = true) (hs5 : Nat.testBit seen 5 = false) (hsn : seen < 64) (hw : way < 16384) (hlen : xs.length = n) (hls : LsA fb xs) (hso : xs.Pairwise (· ≤ ·)) (hbd : ∀ x_ ∈ xs, x_ < 16384) : MC l E yX10_walk cX10_walk 8 (none) ({ frames := 3, cells := 0, slots := 0, locals := 76 }) [.ref k, .int (iI (pt : Int)), .int (iI (seen : Int)), .int (iI (way : Int)), .ref h] [(k, ob 9 [.ref lk, .int (iI s0), .ref lk]), (lk, ob 2 [.ref la_, .ref lb_, .int (iI (nl : Int)), .ref lf_, .ref lt_]), (lf_, ia E 14 lf), (lt_, ia E 14 lt), (h, ob 7 [.ref hb, .ref ha, .ref hc, .int (iI (n : Int)), .int (iI sg)]), (hb, ia E 2002 fb)] (fun v_ w_ => ∃ (n2 : Nat) (fb2 : Nat → Int) (xs2 : List Nat), v_ = none ∧ w_ = [(k, ob 9 [.ref lk, .int (iI s0), .ref lk]), (lk, ob 2 [.ref la_, .ref lb_, .int (iI (nl : Int)), .ref lf_, .ref lt_]), (lf_, ia E 14 lf), (lt_, ia E 14 lt), (h, ob 7 [.ref hb, .ref ha, .ref hc, .int (iI (n2 : Int)), .int (iI sg)]), (hb, ia E 2002 fb2)] ∧ (xs2.length = n2) ∧ (LsA fb2 xs2) ∧ (xs2.Pairwise (· ≤ ·)) ∧ (xs2.Perm (wk nl lf lt 3 pt seen way ++ xs)) ∧ (∀ x_ ∈ xs2, x_ < 16384)) := by
  refine MC.of (by decide +kernel) (Nat.le_of_ble_eq_true rfl) ?_
  intro p_ e_ s_ m_ args_ below_ meth_ c_ A_ C hr hnm
  have C : Cx p_ s_ m_ args_ meth_ c_ E A_ 8 cX10_walk RX10 := C
  show Wx _ _ _ _ _ _ _ _ _ _ _ _ _ _ _ _ 0 [(0, .ref k), (1, .int (iI (pt : Int))), (2, .int (iI (seen : Int))), (3, .int (iI (way : Int))), (4, .ref h)] [] [(k, ob 9 [.ref lk, .int (iI s0), .ref lk]), (lk, ob 2 [.ref la_, .ref lb_, .int (iI (nl : Int)), .ref lf_, .ref lt_]), (lf_, ia E 14 lf), (lt_, ia E 14 lt), (h, ob 7 [.ref hb, .ref ha, .ref hc, .int (iI (n : Int)), .int (iI sg)]), (hb, ia E 2002 fb)]
  refine x_iconst (pc' := 1) C dX10_walk_0 rfl ?_
  refine x_istore (pc' := 3) (lv' := [(5, .int (iI 0)), (0, .ref k), (1, .int (iI (pt : Int))), (2, .int (iI (seen : Int))), (3, .int (iI (way : Int))), (4, .ref h)]) C dX10_walk_1 rfl (by decide) rfl ?_
  refine x_lv [1, 2, 3, 4, 5, 0] rfl ?_
  refine x_loop (α := (Nat) × (Nat) × (Nat → Int) × (List Nat)) (fun a_ => (a_.1 ≤ nl) ∧ (a_.2.2.2.length = a_.2.1) ∧ (LsA a_.2.2.1 a_.2.2.2) ∧ (a_.2.2.2.Pairwise (· ≤ ·)) ∧ (a_.2.2.2.Perm (fm (wkF nl lf lt 2 pt seen way) a_.1 ++ xs)) ∧ (∀ x_ ∈ a_.2.2.2, x_ < 16384)) (fun a_ => nl - a_.1) (fun a_ => [(0, .ref k), (1, .int (iI (pt : Int))), (2, .int (iI (seen : Int))), (3, .int (iI (way : Int))), (4, .ref h), (5, .int (iI (a_.1 : Int)))]) (fun a_ => [(k, ob 9 [.ref lk, .int (iI s0), .ref lk]), (lk, ob 2 [.ref la_, .ref lb_, .int (iI (nl : Int)), .ref lf_, .ref lt_]), (lf_, ia E 14 lf), (lt_, ia E 14 lt), (h, ob 7 [.ref hb, .ref ha, .ref hc, .int (iI (a_.2.1 : Int)), .int (iI sg)]), (hb, ia E 2002 a_.2.2.1)]) ?_ (0, n, fb, xs) ?_
  · intro a_ hI_ ih3
    obtain ⟨i, n1, f1, xs1⟩ := a_
    obtain ⟨hi, hl, hs, ho, hp_, hb_⟩ := hI_
    replace hi : i ≤ nl := hi
    replace hl : xs1.length = n1 := hl
    replace hs : LsA f1 xs1 := hs
    replace ho : xs1.Pairwise (· ≤ ·) := ho
    replace hp_ : xs1.Perm (fm (wkF nl lf lt 2 pt seen way) i ++ xs) := hp_
    replace hb_ : ∀ x_ ∈ xs1, x_ < 16384 := hb_
    show Wx _ _ _ _ _ _ _ _ _ _ _ _ _ _ _ _ 3 [(0, .ref k), (1, .int (iI (pt : Int))), (2, .int (iI (seen : Int))), (3, .int (iI (way : Int))), (4, .ref h), (5, .int (iI (i : Int)))] [] [(k, ob 9 [.ref lk, .int (iI s0), .ref lk]), (lk, ob 2 [.ref la_, .ref lb_, .int (iI (nl : Int)), .ref lf_, .ref lt_]), (lf_, ia E 14 lf), (lt_, ia E 14 lt), (h, ob 7 [.ref hb, .ref ha, .ref hc, .int (iI (n1 : Int)), .int (iI sg)]), (hb, ia E 2002 f1)]
    refine x_iload (pc' := 5) C 5 dX10_walk_3 rfl rfl ?_
    refine x_aload_n (pc' := 6) C 0 dX10_walk_5 rfl rfl ?_
    refine x_get (pc' := 9) C dX10_walk_6 rfl ff_X10_9_9 0 rfl rfl ?_
    refine x_get (pc' := 12) C dX10_walk_9 rfl ff_X10_19_2 1 rfl rfl ?_
    refine x_icmp_ge (pc' := 15) (tgt := 99) C dX10_walk_12 rfl (by decide) (by omega) (by omega) (fun c12 => ?_) (fun c12 => ?_)
    ·
      exact x_vret C hr dX10_walk_99 ⟨n1, f1, xs1, rfl, rfl, (show xs1.length = n1 from hl), (show LsA f1 xs1 from hs), (show xs1.Pairwise (· ≤ ·) from ho), (show xs1.Perm (wk nl lf lt 3 pt seen way ++ xs) from by have e_ : i = nl := (by omega); subst e_; exact hp_), (show ∀ x_ ∈ xs1, x_ < 16384 from hb_)⟩
    ·
      have hf1 := hlf i (by omega)
      have ht1 := hlt i (by omega)
      refine x_aload_n (pc' := 16) C 0 dX10_walk_15 rfl rfl ?_
      refine x_get (pc' := 19) C dX10_walk_16 rfl ff_X10_9_9 0 rfl rfl ?_
      refine x_get (pc' := 22) C dX10_walk_19 rfl ff_X10_25_2 1 rfl rfl ?_
      refine x_iload (pc' := 24) C 5 dX10_walk_22 rfl rfl ?_
      refine x_iald (pc' := 25) C i dX10_walk_24 rfl 3 rfl (by omega) (by omega) (by omega) ?_
      refine x_top (b := .int (iI (((lt i).toNat : Nat) : Int))) (by congr 2; omega) ?_
      refine x_istore (pc' := 27) (lv' := [(6, .int (iI (((lt i).toNat : Nat) : Int))), (0, .ref k), (1, .int (iI (pt : Int))), (2, .int (iI (seen : Int))), (3, .int (iI (way : Int))), (4, .ref h), (5, .int (iI (i : Int)))]) C dX10_walk_25 rfl (by decide) rfl ?_
      refine x_aload_n (pc' := 28) C 1 dX10_walk_27 rfl rfl ?_
      refine x_get (pc' := 31) C dX10_walk_28 rfl ff_X10_9_9 0 rfl rfl ?_
      refine x_get (pc' := 34) C dX10_walk_31 rfl ff_X10_29_2 1 rfl rfl ?_
      refine x_iload (pc' := 36) C 6 dX10_walk_34 rfl rfl ?_
      refine x_iald (pc' := 37) C i dX10_walk_36 rfl 2 rfl (by omega) (by omega) (by omega) ?_
      refine x_iload_n (pc' := 38) C 2 dX10_walk_37 rfl rfl ?_
      refine x_icmp_ne (pc' := 41) (tgt := 93) C dX10_walk_38 rfl (by decide) (by omega) (by omega) (fun c38 => ?_) (fun c38 => ?_)
      ·
        refine x_iinc (pc' := 96) (lv' := [(5, .int (iI ((i : Int) + 1))), (6, .int (iI (((lt i).toNat : Nat) : Int))), (0, .ref k), (1, .int (iI (pt : Int))), (2, .int (iI (seen : Int))), (3, .int (iI (way : Int))), (4, .ref h)]) C 6 dX10_walk_93 rfl (by decide) rfl rfl ?_
        refine x_lvI (lv' := [(5, .int (iI ((i + 1 : Nat) : Int))), (6, .int (iI (((lt i).toNat : Nat) : Int))), (0, .ref k), (1, .int (iI (pt : Int))), (2, .int (iI (seen : Int))), (3, .int (iI (way : Int))), (4, .ref h)]) 0 rfl (by omega) rfl ?_
        refine x_goto (tgt := 3) C dX10_walk_96 (by decide) ?_
        refine x_lv [2, 3, 4, 5, 6, 0] rfl ?_
        exact ih3 ((i + 1), n1, f1, xs1) ⟨(show (i + 1) ≤ nl from by omega), (show xs1.length = n1 from hl), (show LsA f1 xs1 from hs), (show xs1.Pairwise (· ≤ ·) from ho), (show xs1.Perm (fm (wkF nl lf lt 2 pt seen way) (i + 1) ++ xs) from fm_skip hp_ (by unfold wkF; rw [if_pos (by first | exact Or.inl c38 | exact Or.inr c47)])), (show ∀ x_ ∈ xs1, x_ < 16384 from hb_)⟩ (show nl - (i + 1) < nl - i from by omega)
      ·
        refine x_iload_n (pc' := 42) C 3 dX10_walk_41 rfl rfl ?_
        refine x_iload (pc' := 44) C 0 dX10_walk_42 rfl rfl ?_
        refine x_callN (pc' := 47) (As := [.int (iI (seen : Int)), .int (iI (((lt i).toNat : Nat) : Int))]) (rest := []) C cn_X10_32 dX10_walk_44 rfl (c_X11_holds l E seen ((lt i).toNat) (show seen < 2147483648 from by omega) (show ((lt i).toNat) < 32 from by omega)) mm_X11_holds (hstk := rfl) (hlen := rfl) (hcat := Nat.le_of_ble_eq_true rfl) (isC := []) (isR := [0, 1, 2, 3, 4, 5]) (wr := [(k, ob 9 [.ref lk, .int (iI s0), .ref lk]), (lk, ob 2 [.ref la_, .ref lb_, .int (iI (nl : Int)), .ref lf_, .ref lt_]), (lf_, ia E 14 lf), (lt_, ia E 14 lt), (h, ob 7 [.ref hb, .ref ha, .ref hc, .int (iI (n1 : Int)), .int (iI sg)]), (hb, ia E 2002 f1)]) (hC := rfl) (hR := rfl) (hnC := rfl) (hn := rfl) (hdis := by decide) (hR1 := ⟨Nat.le_of_ble_eq_true rfl, Nat.le_of_ble_eq_true rfl⟩) (hcs := ⟨Nat.le_of_ble_eq_true rfl, Nat.le_of_ble_eq_true rfl⟩) (fun v_ w_ hp_ => ?_)
        obtain ⟨rfl, rfl⟩ := hp_
        show Wx _ _ _ _ _ _ _ _ _ _ _ _ _ _ _ _ 47 [(6, .int (iI (((lt i).toNat : Nat) : Int))), (0, .ref k), (1, .int (iI (pt : Int))), (2, .int (iI (seen : Int))), (3, .int (iI (way : Int))), (4, .ref h), (5, .int (iI (i : Int)))] [.int (iI (bI (seen.testBit ((lt i).toNat) = true)))] [(k, ob 9 [.ref lk, .int (iI s0), .ref lk]), (lk, ob 2 [.ref la_, .ref lb_, .int (iI (nl : Int)), .ref lf_, .ref lt_]), (lf_, ia E 14 lf), (lt_, ia E 14 lt), (h, ob 7 [.ref hb, .ref ha, .ref hc, .int (iI (n1 : Int)), .int (iI sg)]), (hb, ia E 2002 f1)]
        refine x_if_eq (pc' := 50) (tgt := 53) C dX10_walk_47 rfl (by decide) (bI_rng) (fun c47 => ?_) (fun c47 => ?_)
        ·
          replace c47 := bI_z c47
          have hnz : ¬ lt i = 0 := by intro hh; apply c47; rw [hh]; exact hs0
          have hob : way ||| 2 ^ i < 2 ^ 14 := or_bd (N := 14) hw (by omega)
          refine x_iload_n (pc' := 54) C 4 dX10_walk_53 rfl rfl ?_
          refine x_iconst (pc' := 55) C dX10_walk_54 rfl ?_
          refine x_iload (pc' := 57) C 6 dX10_walk_55 rfl rfl ?_
          refine x_ishl (pc' := 58) (z := (iI ((2 ^ i : Nat) : Int))) C dX10_walk_57 rfl (bt_shl (by omega)) ?_
          refine x_ior (pc' := 59) (z := (iI ((way ||| 2 ^ i : Nat) : Int))) C dX10_walk_58 rfl (bt_or _ _) ?_
          refine x_istore (pc' := 61) (lv' := [(7, .int (iI ((way ||| 2 ^ i : Nat) : Int))), (6, .int (iI (((lt i).toNat : Nat) : Int))), (0, .ref k), (1, .int (iI (pt : Int))), (2, .int (iI (seen : Int))), (3, .int (iI (way : Int))), (4, .ref h), (5, .int (iI (i : Int)))]) C dX10_walk_59 rfl (by decide) rfl ?_
          refine x_iload (pc' := 63) C 1 dX10_walk_61 rfl rfl ?_
          refine x_iconst (pc' := 64) C dX10_walk_63 rfl ?_
          refine x_icmp_ne (pc' := 67) (tgt := 77) C dX10_walk_64 rfl (by decide) (by omega) (by omega) (fun c64 => ?_) (fun c64 => ?_)
          ·
            have hop : seen ||| 2 ^ (lt i).toNat < 2 ^ 6 := or_bd (N := 6) hsn (by omega)
            refine x_aload_n (pc' := 78) C 2 dX10_walk_77 rfl rfl ?_
            refine x_iload (pc' := 80) C 1 dX10_walk_78 rfl rfl ?_
            refine x_iload_n (pc' := 81) C 4 dX10_walk_80 rfl rfl ?_
            refine x_iconst (pc' := 82) C dX10_walk_81 rfl ?_
            refine x_iload (pc' := 84) C 1 dX10_walk_82 rfl rfl ?_
            refine x_ishl (pc' := 85) (z := (iI ((2 ^ (lt i).toNat : Nat) : Int))) C dX10_walk_84 rfl (bt_shl (by omega)) ?_
            refine x_ior (pc' := 86) (z := (iI ((seen ||| 2 ^ (lt i).toNat : Nat) : Int))) C dX10_walk_85 rfl (bt_or _ _) ?_
            refine x_iload (pc' := 88) C 0 dX10_walk_86 rfl rfl ?_
            refine x_aload (pc' := 90) C 6 dX10_walk_88 rfl rfl ?_
            have hFi : (wkF nl lf lt 2 pt seen way) i = wk nl lf lt 2 (lt i).toNat (seen ||| 2 ^ (lt i).toNat) (way ||| 2 ^ i) := by unfold wkF; rw [if_neg (by intro hh; rcases hh with hh | hh; exact hh (by omega); exact c47 hh), if_neg (by omega)]
            refine x_callV (pc' := 93) (As := [.int (iI (((lt i).toNat : Nat) : Int)), .int (iI ((seen ||| 2 ^ (lt i).toNat : Nat) : Int)), .int (iI ((way ||| 2 ^ i : Nat) : Int)), .ref h]) (rest := []) (q0 := 0) C rfl rfl cv_X10_15_X10 dX10_walk_90 rfl (c_X10_walk_2 l E k lk la_ lb_ lf_ lt_ nl s0 lf lt h hb ha hc sg f1 n1 ((lt i).toNat) (seen ||| 2 ^ (lt i).toNat) (way ||| 2 ^ i) xs1 (show nl ≤ 14 from by omega) (show ∀ j_ : Nat, j_ < nl → 0 ≤ lf j_ ∧ lf j_ ≤ 5 from hlf) (show ∀ j_ : Nat, j_ < nl → 0 ≤ lt j_ ∧ lt j_ ≤ 5 from hlt) (show (wk nl lf lt 2 ((lt i).toNat) (seen ||| 2 ^ (lt i).toNat) (way ||| 2 ^ i)).length + xs1.length ≤ 2002 from by have hcx := fm_cap hp_ (show i < nl by omega) hcap; rw [hFi] at hcx; rw [hl] at hcx; omega) (show ((lt i).toNat) ≤ 5 from by omega) (show un (seen ||| 2 ^ (lt i).toNat) < 2 from by have := un_less (show 0 < (lt i).toNat by omega) (by omega) c47; omega) (show Nat.testBit (seen ||| 2 ^ (lt i).toNat) 0 = true from by rw [Nat.testBit_or, hs0]; rfl) (show Nat.testBit (seen ||| 2 ^ (lt i).toNat) 5 = false from by rw [Nat.testBit_or, hs5, Nat.testBit_two_pow]; simp; omega) (show (seen ||| 2 ^ (lt i).toNat) < 64 from or_bd (N := 6) hsn (by omega)) (show (way ||| 2 ^ i) < 16384 from or_bd (N := 14) hw (by omega)) (show xs1.length = n1 from hl) (show LsA f1 xs1 from hs) (show xs1.Pairwise (· ≤ ·) from ho) (show ∀ x_ ∈ xs1, x_ < 16384 from hb_)) mm_X10_walk (hstk := rfl) (hlen := rfl) (hcat := Nat.le_of_ble_eq_true rfl) (isC := [0, 1, 2, 3, 4, 5]) (isR := []) (wr := []) (hC := rfl) (hR := rfl) (hnC := rfl) (hn := rfl) (hdis := by decide) (hR1 := ⟨Nat.le_of_ble_eq_true rfl, Nat.le_of_ble_eq_true rfl⟩) (hcs := ⟨Nat.le_of_ble_eq_true rfl, Nat.le_of_ble_eq_true rfl⟩) (fun v_ w_ hp_ => ?_)
            obtain ⟨n2_90, fb2_90, xs2_90, rfl, rfl, g90_l, g90_s, g90_o, g90_p, g90_b⟩ := hp_
            replace g90_l : xs2_90.length = n2_90 := g90_l
            replace g90_s : LsA fb2_90 xs2_90 := g90_s
            replace g90_o : xs2_90.Pairwise (· ≤ ·) := g90_o
            replace g90_p : xs2_90.Perm (wk nl lf lt 2 ((lt i).toNat) (seen ||| 2 ^ (lt i).toNat) (way ||| 2 ^ i) ++ xs1) := g90_p
            replace g90_b : ∀ x_ ∈ xs2_90, x_ < 16384 := g90_b
            show Wx _ _ _ _ _ _ _ _ _ _ _ _ _ _ _ _ 93 [(7, .int (iI ((way ||| 2 ^ i : Nat) : Int))), (6, .int (iI (((lt i).toNat : Nat) : Int))), (0, .ref k), (1, .int (iI (pt : Int))), (2, .int (iI (seen : Int))), (3, .int (iI (way : Int))), (4, .ref h), (5, .int (iI (i : Int)))] [] [(k, ob 9 [.ref lk, .int (iI s0), .ref lk]), (lk, ob 2 [.ref la_, .ref lb_, .int (iI (nl : Int)), .ref lf_, .ref lt_]), (lf_, ia E 14 lf), (lt_, ia E 14 lt), (h, ob 7 [.ref hb, .ref ha, .ref hc, .int (iI (n2_90 : Int)), .int (iI sg)]), (hb, ia E 2002 fb2_90)]
            refine x_iinc (pc' := 96) (lv' := [(5, .int (iI ((i : Int) + 1))), (7, .int (iI ((way ||| 2 ^ i : Nat) : Int))), (6, .int (iI (((lt i).toNat : Nat) : Int))), (0, .ref k), (1, .int (iI (pt : Int))), (2, .int (iI (seen : Int))), (3, .int (iI (way : Int))), (4, .ref h)]) C 7 dX10_walk_93 rfl (by decide) rfl rfl ?_
            refine x_lvI (lv' := [(5, .int (iI ((i + 1 : Nat) : Int))), (7, .int (iI ((way ||| 2 ^ i : Nat) : Int))), (6, .int (iI (((lt i).toNat : Nat) : Int))), (0, .ref k), (1, .int (iI (pt : Int))), (2, .int (iI (seen : Int))), (3, .int (iI (way : Int))), (4, .ref h)]) 0 rfl (by omega) rfl ?_
            refine x_goto (tgt := 3) C dX10_walk_96 (by decide) ?_
            refine x_lv [3, 4, 5, 6, 7, 0] rfl ?_
            exact ih3 ((i + 1), n2_90, fb2_90, xs2_90) ⟨(show (i + 1) ≤ nl from by omega), (show xs2_90.length = n2_90 from g90_l), (show LsA fb2_90 xs2_90 from g90_s), (show xs2_90.Pairwise (· ≤ ·) from g90_o), (show xs2_90.Perm (fm (wkF nl lf lt 2 pt seen way) (i + 1) ++ xs) from fm_perm hp_ hFi g90_p), (show ∀ x_ ∈ xs2_90, x_ < 16384 from g90_b)⟩ (show nl - (i + 1) < nl - i from by omega)
          ·
            have hFi : (wkF nl lf lt 2 pt seen way) i = [way ||| 2 ^ i] := by unfold wkF; rw [if_neg (by intro hh; rcases hh with hh | hh; exact hh (by omega); exact c47 hh), if_pos (by omega)]
            have hcx := fm_cap hp_ (show i < nl by omega) hcap
            rw [hFi, hl, List.length_singleton] at hcx
            refine x_aload (pc' := 69) C 6 dX10_walk_67 rfl rfl ?_
            refine x_iload (pc' := 71) C 0 dX10_walk_69 rfl rfl ?_
            refine x_callV (pc' := 74) (As := [.int (iI ((way ||| 2 ^ i : Nat) : Int))]) (rest := []) (q0 := 0) C rfl rfl cv_X10_36_X8 dX10_walk_71 rfl (c_X8_insert l E h hb ha hc n1 (way ||| 2 ^ i) sg f1 xs1 (show n1 < 2002 from by omega) (show (way ||| 2 ^ i) < 1000000 from by omega) (show xs1.length = n1 from hl) (show LsA f1 xs1 from hs) (show xs1.Pairwise (· ≤ ·) from ho) (show ∀ j (h : j < xs1.length), xs1[j] < 1000000 from get_bd (fun x_ hx_ => Nat.lt_trans (hb_ x_ hx_) (by decide)))) mm_X8_insert (hstk := rfl) (hlen := rfl) (hcat := Nat.le_of_ble_eq_true rfl) (isC := [4, 5]) (isR := [0, 1, 2, 3]) (wr := [(k, ob 9 [.ref lk, .int (iI s0), .ref lk]), (lk, ob 2 [.ref la_, .ref lb_, .int (iI (nl : Int)), .ref lf_, .ref lt_]), (lf_, ia E 14 lf), (lt_, ia E 14 lt)]) (hC := rfl) (hR := rfl) (hnC := rfl) (hn := rfl) (hdis := by decide) (hR1 := ⟨Nat.le_of_ble_eq_true rfl, Nat.le_of_ble_eq_true rfl⟩) (hcs := ⟨Nat.le_of_ble_eq_true rfl, Nat.le_of_ble_eq_true rfl⟩) (fun v_ w_ hp_ => ?_)
            obtain ⟨fb2_71, xs2_71, rfl, rfl, g71_l, g71_s, g71_o, g71_p⟩ := hp_
            replace g71_l : xs2_71.length = n1 + 1 := g71_l
            replace g71_s : LsA fb2_71 xs2_71 := g71_s
            replace g71_o : xs2_71.Pairwise (· ≤ ·) := g71_o
            replace g71_p : xs2_71.Perm ((way ||| 2 ^ i) :: xs1) := g71_p
            show Wx _ _ _ _ _ _ _ _ _ _ _ _ _ _ _ _ 74 [(7, .int (iI ((way ||| 2 ^ i : Nat) : Int))), (6, .int (iI (((lt i).toNat : Nat) : Int))), (0, .ref k), (1, .int (iI (pt : Int))), (2, .int (iI (seen : Int))), (3, .int (iI (way : Int))), (4, .ref h), (5, .int (iI (i : Int)))] [] [(k, ob 9 [.ref lk, .int (iI s0), .ref lk]), (lk, ob 2 [.ref la_, .ref lb_, .int (iI (nl : Int)), .ref lf_, .ref lt_]), (lf_, ia E 14 lf), (lt_, ia E 14 lt), (h, ob 7 [.ref hb, .ref ha, .ref hc, .int (iI ((n1 + 1 : Nat) : Int)), .int (iI sg)]), (hb, ia E 2002 fb2_71)]
            refine x_goto (tgt := 93) C dX10_walk_74 (by decide) ?_
            refine x_iinc (pc' := 96) (lv' := [(5, .int (iI ((i : Int) + 1))), (7, .int (iI ((way ||| 2 ^ i : Nat) : Int))), (6, .int (iI (((lt i).toNat : Nat) : Int))), (0, .ref k), (1, .int (iI (pt : Int))), (2, .int (iI (seen : Int))), (3, .int (iI (way : Int))), (4, .ref h)]) C 7 dX10_walk_93 rfl (by decide) rfl rfl ?_
            refine x_lvI (lv' := [(5, .int (iI ((i + 1 : Nat) : Int))), (7, .int (iI ((way ||| 2 ^ i : Nat) : Int))), (6, .int (iI (((lt i).toNat : Nat) : Int))), (0, .ref k), (1, .int (iI (pt : Int))), (2, .int (iI (seen : Int))), (3, .int (iI (way : Int))), (4, .ref h)]) 0 rfl (by omega) rfl ?_
            refine x_goto (tgt := 3) C dX10_walk_96 (by decide) ?_
            refine x_lv [3, 4, 5, 6, 7, 0] rfl ?_
            exact ih3 ((i + 1), (n1 + 1), fb2_71, xs2_71) ⟨(show (i + 1) ≤ nl from by omega), (show xs2_71.length = (n1 + 1) from g71_l), (show LsA fb2_71 xs2_71 from g71_s), (show xs2_71.Pairwise (· ≤ ·) from g71_o), (show xs2_71.Perm (fm (wkF nl lf lt 2 pt seen way) (i + 1) ++ xs) from fm_perm hp_ hFi g71_p), (show ∀ x_ ∈ xs2_71, x_ < 16384 from mem_bd (L := [way ||| 2 ^ i]) g71_p (one_bd (or_bd (N := 14) hw (by omega))) hb_)⟩ (show nl - (i + 1) < nl - i from by omega)
        ·
          replace c47 := bI_nz c47
          refine x_goto (tgt := 93) C dX10_walk_50 (by decide) ?_
          refine x_iinc (pc' := 96) (lv' := [(5, .int (iI ((i : Int) + 1))), (6, .int (iI (((lt i).toNat : Nat) : Int))), (0, .ref k), (1, .int (iI (pt : Int))), (2, .int (iI (seen : Int))), (3, .int (iI (way : Int))), (4, .ref h)]) C 6 dX10_walk_93 rfl (by decide) rfl rfl ?_
          refine x_lvI (lv' := [(5, .int (iI ((i + 1 : Nat) : Int))), (6, .int (iI (((lt i).toNat : Nat) : Int))), (0, .ref k), (1, .int (iI (pt : Int))), (2, .int (iI (seen : Int))), (3, .int (iI (way : Int))), (4, .ref h)]) 0 rfl (by omega) rfl ?_
          refine x_goto (tgt := 3) C dX10_walk_96 (by decide) ?_
          refine x_lv [2, 3, 4, 5, 6, 0] rfl ?_
          exact ih3 ((i + 1), n1, f1, xs1) ⟨(show (i + 1) ≤ nl from by omega), (show xs1.length = n1 from hl), (show LsA f1 xs1 from hs), (show xs1.Pairwise (· ≤ ·) from ho), (show xs1.Perm (fm (wkF nl lf lt 2 pt seen way) (i + 1) ++ xs) from fm_skip hp_ (by unfold wkF; rw [if_pos (by first | exact Or.inl c38 | exact Or.inr c47)])), (show ∀ x_ ∈ xs1, x_ < 16384 from hb_)⟩ (show nl - (i + 1) < nl - i from by omega)
  · exact ⟨(show 0 ≤ nl from by omega), (show xs.length = n from hlen), (show LsA fb xs from hls), (show xs.Pairwise (· ≤ ·) from hso), (show xs.Perm (fm (wkF nl lf lt 2 pt seen way) 0 ++ xs) from List.Perm.refl _), (show ∀ x_ ∈ xs, x_ < 16384 from hbd)⟩

set_option maxHeartbeats 4000000 in
set_option maxRecDepth 100000 in
theorem c_X10_walk_4 (l : Launch) (E : EV) (k : Nat) (lk : Nat) (la_ : Nat) (lb_ : Nat) (lf_ : Nat) (lt_ : Nat) (nl : Nat) (s0 : Int) (lf : Nat → Int) (lt : Nat → Int) (h : Nat) (hb : Nat) (ha : Nat) (hc : Nat) (sg : Int) (fb : Nat → Int) (n : Nat) (pt : Nat) (seen : Nat) (way : Nat) (xs : List Nat) (hnl : nl ≤ 14) (hlf : ∀ j_ : Nat, j_ < nl → 0 ≤ lf j_ ∧ lf j_ ≤ 5) (hlt : ∀ j_ : Nat, j_ < nl → 0 ≤ lt j_ ∧ lt j_ ≤ 5) (hcap : (wk nl lf lt 4 pt seen way).length + xs.length ≤ 2002) (hpt : pt ≤ 5) (hun : un seen < 4) (hs0 : Nat.testBit seen 0 = true) (hs5 : Nat.testBit seen 5 = false) (hsn : seen < 64) (hw : way < 16384) (hlen : xs.length = n) (hls : LsA fb xs) (hso : xs.Pairwise (· ≤ ·)) (hbd : ∀ x_ ∈ xs, x_ < 16384) : MC l E yX10_walk cX10_walk 8 (none) ({ frames := 4, cells := 0, slots := 0, locals := 103 }) [.ref k, .int (iI (pt : Int)), .int (iI (seen : Int)), .int (iI (way : Int)), .ref h] [(k, ob 9 [.ref lk, .int (iI s0), .ref lk]), (lk, ob 2 [.ref la_, .ref lb_, .int (iI (nl : Int)), .ref lf_, .ref lt_]), (lf_, ia E 14 lf), (lt_, ia E 14 lt), (h, ob 7 [.ref hb, .ref ha, .ref hc, .int (iI (n : Int)), .int (iI sg)]), (hb, ia E 2002 fb)] (fun v_ w_ => ∃ (n2 : Nat) (fb2 : Nat → Int) (xs2 : List Nat), v_ = none ∧ w_ = [(k, ob 9 [.ref lk, .int (iI s0), .ref lk]), (lk, ob 2 [.ref la_, .ref lb_, .int (iI (nl : Int)), .ref lf_, .ref lt_]), (lf_, ia E 14 lf), (lt_, ia E 14 lt), (h, ob 7 [.ref hb, .ref ha, .ref hc, .int (iI (n2 : Int)), .int (iI sg)]), (hb, ia E 2002 fb2)] ∧ (xs2.length = n2) ∧ (LsA fb2 xs2) ∧ (xs2.Pairwise (· ≤ ·)) ∧ (xs2.Perm (wk nl lf lt 4 pt seen way ++ xs)) ∧ (∀ x_ ∈ xs2, x_ < 16384)) := by
  refine MC.of (by decide +kernel) (Nat.le_of_ble_eq_true rfl) ?_
  intro p_ e_ s_ m_ args_ below_ meth_ c_ A_ C hr hnm
  have C : Cx p_ s_ m_ args_ meth_ c_ E A_ 8 cX10_walk RX10 := C
  show Wx _ _ _ _ _ _ _ _ _ _ _ _ _ _ _ _ 0 [(0, .ref k), (1, .int (iI (pt : Int))), (2, .int (iI (seen : Int))), (3, .int (iI (way : Int))), (4, .ref h)] [] [(k, ob 9 [.ref lk, .int (iI s0), .ref lk]), (lk, ob 2 [.ref la_, .ref lb_, .int (iI (nl : Int)), .ref lf_, .ref lt_]), (lf_, ia E 14 lf), (lt_, ia E 14 lt), (h, ob 7 [.ref hb, .ref ha, .ref hc, .int (iI (n : Int)), .int (iI sg)]), (hb, ia E 2002 fb)]
  refine x_iconst (pc' := 1) C dX10_walk_0 rfl ?_
  refine x_istore (pc' := 3) (lv' := [(5, .int (iI 0)), (0, .ref k), (1, .int (iI (pt : Int))), (2, .int (iI (seen : Int))), (3, .int (iI (way : Int))), (4, .ref h)]) C dX10_walk_1 rfl (by decide) rfl ?_
  refine x_lv [1, 2, 3, 4, 5, 0] rfl ?_
  refine x_loop (α := (Nat) × (Nat) × (Nat → Int) × (List Nat)) (fun a_ => (a_.1 ≤ nl) ∧ (a_.2.2.2.length = a_.2.1) ∧ (LsA a_.2.2.1 a_.2.2.2) ∧ (a_.2.2.2.Pairwise (· ≤ ·)) ∧ (a_.2.2.2.Perm (fm (wkF nl lf lt 3 pt seen way) a_.1 ++ xs)) ∧ (∀ x_ ∈ a_.2.2.2, x_ < 16384)) (fun a_ => nl - a_.1) (fun a_ => [(0, .ref k), (1, .int (iI (pt : Int))), (2, .int (iI (seen : Int))), (3, .int (iI (way : Int))), (4, .ref h), (5, .int (iI (a_.1 : Int)))]) (fun a_ => [(k, ob 9 [.ref lk, .int (iI s0), .ref lk]), (lk, ob 2 [.ref la_, .ref lb_, .int (iI (nl : Int)), .ref lf_, .ref lt_]), (lf_, ia E 14 lf), (lt_, ia E 14 lt), (h, ob 7 [.ref hb, .ref ha, .ref hc, .int (iI (a_.2.1 : Int)), .int (iI sg)]), (hb, ia E 2002 a_.2.2.1)]) ?_ (0, n, fb, xs) ?_
  · intro a_ hI_ ih3
    obtain ⟨i, n1, f1, xs1⟩ := a_
    obtain ⟨hi, hl, hs, ho, hp_, hb_⟩ := hI_
    replace hi : i ≤ nl := hi
    replace hl : xs1.length = n1 := hl
    replace hs : LsA f1 xs1 := hs
    replace ho : xs1.Pairwise (· ≤ ·) := ho
    replace hp_ : xs1.Perm (fm (wkF nl lf lt 3 pt seen way) i ++ xs) := hp_
    replace hb_ : ∀ x_ ∈ xs1, x_ < 16384 := hb_
    show Wx _ _ _ _ _ _ _ _ _ _ _ _ _ _ _ _ 3 [(0, .ref k), (1, .int (iI (pt : Int))), (2, .int (iI (seen : Int))), (3, .int (iI (way : Int))), (4, .ref h), (5, .int (iI (i : Int)))] [] [(k, ob 9 [.ref lk, .int (iI s0), .ref lk]), (lk, ob 2 [.ref la_, .ref lb_, .int (iI (nl : Int)), .ref lf_, .ref lt_]), (lf_, ia E 14 lf), (lt_, ia E 14 lt), (h, ob 7 [.ref hb, .ref ha, .ref hc, .int (iI (n1 : Int)), .int (iI sg)]), (hb, ia E 2002 f1)]
    refine x_iload (pc' := 5) C 5 dX10_walk_3 rfl rfl ?_
    refine x_aload_n (pc' := 6) C 0 dX10_walk_5 rfl rfl ?_
    refine x_get (pc' := 9) C dX10_walk_6 rfl ff_X10_9_9 0 rfl rfl ?_
    refine x_get (pc' := 12) C dX10_walk_9 rfl ff_X10_19_2 1 rfl rfl ?_
    refine x_icmp_ge (pc' := 15) (tgt := 99) C dX10_walk_12 rfl (by decide) (by omega) (by omega) (fun c12 => ?_) (fun c12 => ?_)
    ·
      exact x_vret C hr dX10_walk_99 ⟨n1, f1, xs1, rfl, rfl, (show xs1.length = n1 from hl), (show LsA f1 xs1 from hs), (show xs1.Pairwise (· ≤ ·) from ho), (show xs1.Perm (wk nl lf lt 4 pt seen way ++ xs) from by have e_ : i = nl := (by omega); subst e_; exact hp_), (show ∀ x_ ∈ xs1, x_ < 16384 from hb_)⟩
    ·
      have hf1 := hlf i (by omega)
      have ht1 := hlt i (by omega)
      refine x_aload_n (pc' := 16) C 0 dX10_walk_15 rfl rfl ?_
      refine x_get (pc' := 19) C dX10_walk_16 rfl ff_X10_9_9 0 rfl rfl ?_
      refine x_get (pc' := 22) C dX10_walk_19 rfl ff_X10_25_2 1 rfl rfl ?_
      refine x_iload (pc' := 24) C 5 dX10_walk_22 rfl rfl ?_
      refine x_iald (pc' := 25) C i dX10_walk_24 rfl 3 rfl (by omega) (by omega) (by omega) ?_
      refine x_top (b := .int (iI (((lt i).toNat : Nat) : Int))) (by congr 2; omega) ?_
      refine x_istore (pc' := 27) (lv' := [(6, .int (iI (((lt i).toNat : Nat) : Int))), (0, .ref k), (1, .int (iI (pt : Int))), (2, .int (iI (seen : Int))), (3, .int (iI (way : Int))), (4, .ref h), (5, .int (iI (i : Int)))]) C dX10_walk_25 rfl (by decide) rfl ?_
      refine x_aload_n (pc' := 28) C 1 dX10_walk_27 rfl rfl ?_
      refine x_get (pc' := 31) C dX10_walk_28 rfl ff_X10_9_9 0 rfl rfl ?_
      refine x_get (pc' := 34) C dX10_walk_31 rfl ff_X10_29_2 1 rfl rfl ?_
      refine x_iload (pc' := 36) C 6 dX10_walk_34 rfl rfl ?_
      refine x_iald (pc' := 37) C i dX10_walk_36 rfl 2 rfl (by omega) (by omega) (by omega) ?_
      refine x_iload_n (pc' := 38) C 2 dX10_walk_37 rfl rfl ?_
      refine x_icmp_ne (pc' := 41) (tgt := 93) C dX10_walk_38 rfl (by decide) (by omega) (by omega) (fun c38 => ?_) (fun c38 => ?_)
      ·
        refine x_iinc (pc' := 96) (lv' := [(5, .int (iI ((i : Int) + 1))), (6, .int (iI (((lt i).toNat : Nat) : Int))), (0, .ref k), (1, .int (iI (pt : Int))), (2, .int (iI (seen : Int))), (3, .int (iI (way : Int))), (4, .ref h)]) C 6 dX10_walk_93 rfl (by decide) rfl rfl ?_
        refine x_lvI (lv' := [(5, .int (iI ((i + 1 : Nat) : Int))), (6, .int (iI (((lt i).toNat : Nat) : Int))), (0, .ref k), (1, .int (iI (pt : Int))), (2, .int (iI (seen : Int))), (3, .int (iI (way : Int))), (4, .ref h)]) 0 rfl (by omega) rfl ?_
        refine x_goto (tgt := 3) C dX10_walk_96 (by decide) ?_
        refine x_lv [2, 3, 4, 5, 6, 0] rfl ?_
        exact ih3 ((i + 1), n1, f1, xs1) ⟨(show (i + 1) ≤ nl from by omega), (show xs1.length = n1 from hl), (show LsA f1 xs1 from hs), (show xs1.Pairwise (· ≤ ·) from ho), (show xs1.Perm (fm (wkF nl lf lt 3 pt seen way) (i + 1) ++ xs) from fm_skip hp_ (by unfold wkF; rw [if_pos (by first | exact Or.inl c38 | exact Or.inr c47)])), (show ∀ x_ ∈ xs1, x_ < 16384 from hb_)⟩ (show nl - (i + 1) < nl - i from by omega)
      ·
        refine x_iload_n (pc' := 42) C 3 dX10_walk_41 rfl rfl ?_
        refine x_iload (pc' := 44) C 0 dX10_walk_42 rfl rfl ?_
        refine x_callN (pc' := 47) (As := [.int (iI (seen : Int)), .int (iI (((lt i).toNat : Nat) : Int))]) (rest := []) C cn_X10_32 dX10_walk_44 rfl (c_X11_holds l E seen ((lt i).toNat) (show seen < 2147483648 from by omega) (show ((lt i).toNat) < 32 from by omega)) mm_X11_holds (hstk := rfl) (hlen := rfl) (hcat := Nat.le_of_ble_eq_true rfl) (isC := []) (isR := [0, 1, 2, 3, 4, 5]) (wr := [(k, ob 9 [.ref lk, .int (iI s0), .ref lk]), (lk, ob 2 [.ref la_, .ref lb_, .int (iI (nl : Int)), .ref lf_, .ref lt_]), (lf_, ia E 14 lf), (lt_, ia E 14 lt), (h, ob 7 [.ref hb, .ref ha, .ref hc, .int (iI (n1 : Int)), .int (iI sg)]), (hb, ia E 2002 f1)]) (hC := rfl) (hR := rfl) (hnC := rfl) (hn := rfl) (hdis := by decide) (hR1 := ⟨Nat.le_of_ble_eq_true rfl, Nat.le_of_ble_eq_true rfl⟩) (hcs := ⟨Nat.le_of_ble_eq_true rfl, Nat.le_of_ble_eq_true rfl⟩) (fun v_ w_ hp_ => ?_)
        obtain ⟨rfl, rfl⟩ := hp_
        show Wx _ _ _ _ _ _ _ _ _ _ _ _ _ _ _ _ 47 [(6, .int (iI (((lt i).toNat : Nat) : Int))), (0, .ref k), (1, .int (iI (pt : Int))), (2, .int (iI (seen : Int))), (3, .int (iI (way : Int))), (4, .ref h), (5, .int (iI (i : Int)))] [.int (iI (bI (seen.testBit ((lt i).toNat) = true)))] [(k, ob 9 [.ref lk, .int (iI s0), .ref lk]), (lk, ob 2 [.ref la_, .ref lb_, .int (iI (nl : Int)), .ref lf_, .ref lt_]), (lf_, ia E 14 lf), (lt_, ia E 14 lt), (h, ob 7 [.ref hb, .ref ha, .ref hc, .int (iI (n1 : Int)), .int (iI sg)]), (hb, ia E 2002 f1)]
        refine x_if_eq (pc' := 50) (tgt := 53) C dX10_walk_47 rfl (by decide) (bI_rng) (fun c47 => ?_) (fun c47 => ?_)
        ·
          replace c47 := bI_z c47
          have hnz : ¬ lt i = 0 := by intro hh; apply c47; rw [hh]; exact hs0
          have hob : way ||| 2 ^ i < 2 ^ 14 := or_bd (N := 14) hw (by omega)
          refine x_iload_n (pc' := 54) C 4 dX10_walk_53 rfl rfl ?_
          refine x_iconst (pc' := 55) C dX10_walk_54 rfl ?_
          refine x_iload (pc' := 57) C 6 dX10_walk_55 rfl rfl ?_
          refine x_ishl (pc' := 58) (z := (iI ((2 ^ i : Nat) : Int))) C dX10_walk_57 rfl (bt_shl (by omega)) ?_
          refine x_ior (pc' := 59) (z := (iI ((way ||| 2 ^ i : Nat) : Int))) C dX10_walk_58 rfl (bt_or _ _) ?_
          refine x_istore (pc' := 61) (lv' := [(7, .int (iI ((way ||| 2 ^ i : Nat) : Int))), (6, .int (iI (((lt i).toNat : Nat) : Int))), (0, .ref k), (1, .int (iI (pt : Int))), (2, .int (iI (seen : Int))), (3, .int (iI (way : Int))), (4, .ref h), (5, .int (iI (i : Int)))]) C dX10_walk_59 rfl (by decide) rfl ?_
          refine x_iload (pc' := 63) C 1 dX10_walk_61 rfl rfl ?_
          refine x_iconst (pc' := 64) C dX10_walk_63 rfl ?_
          refine x_icmp_ne (pc' := 67) (tgt := 77) C dX10_walk_64 rfl (by decide) (by omega) (by omega) (fun c64 => ?_) (fun c64 => ?_)
          ·
            have hop : seen ||| 2 ^ (lt i).toNat < 2 ^ 6 := or_bd (N := 6) hsn (by omega)
            refine x_aload_n (pc' := 78) C 2 dX10_walk_77 rfl rfl ?_
            refine x_iload (pc' := 80) C 1 dX10_walk_78 rfl rfl ?_
            refine x_iload_n (pc' := 81) C 4 dX10_walk_80 rfl rfl ?_
            refine x_iconst (pc' := 82) C dX10_walk_81 rfl ?_
            refine x_iload (pc' := 84) C 1 dX10_walk_82 rfl rfl ?_
            refine x_ishl (pc' := 85) (z := (iI ((2 ^ (lt i).toNat : Nat) : Int))) C dX10_walk_84 rfl (bt_shl (by omega)) ?_
            refine x_ior (pc' := 86) (z := (iI ((seen ||| 2 ^ (lt i).toNat : Nat) : Int))) C dX10_walk_85 rfl (bt_or _ _) ?_
            refine x_iload (pc' := 88) C 0 dX10_walk_86 rfl rfl ?_
            refine x_aload (pc' := 90) C 6 dX10_walk_88 rfl rfl ?_
            have hFi : (wkF nl lf lt 3 pt seen way) i = wk nl lf lt 3 (lt i).toNat (seen ||| 2 ^ (lt i).toNat) (way ||| 2 ^ i) := by unfold wkF; rw [if_neg (by intro hh; rcases hh with hh | hh; exact hh (by omega); exact c47 hh), if_neg (by omega)]
            refine x_callV (pc' := 93) (As := [.int (iI (((lt i).toNat : Nat) : Int)), .int (iI ((seen ||| 2 ^ (lt i).toNat : Nat) : Int)), .int (iI ((way ||| 2 ^ i : Nat) : Int)), .ref h]) (rest := []) (q0 := 0) C rfl rfl cv_X10_15_X10 dX10_walk_90 rfl (c_X10_walk_3 l E k lk la_ lb_ lf_ lt_ nl s0 lf lt h hb ha hc sg f1 n1 ((lt i).toNat) (seen ||| 2 ^ (lt i).toNat) (way ||| 2 ^ i) xs1 (show nl ≤ 14 from by omega) (show ∀ j_ : Nat, j_ < nl → 0 ≤ lf j_ ∧ lf j_ ≤ 5 from hlf) (show ∀ j_ : Nat, j_ < nl → 0 ≤ lt j_ ∧ lt j_ ≤ 5 from hlt) (show (wk nl lf lt 3 ((lt i).toNat) (seen ||| 2 ^ (lt i).toNat) (way ||| 2 ^ i)).length + xs1.length ≤ 2002 from by have hcx := fm_cap hp_ (show i < nl by omega) hcap; rw [hFi] at hcx; rw [hl] at hcx; omega) (show ((lt i).toNat) ≤ 5 from by omega) (show un (seen ||| 2 ^ (lt i).toNat) < 3 from by have := un_less (show 0 < (lt i).toNat by omega) (by omega) c47; omega) (show Nat.testBit (seen ||| 2 ^ (lt i).toNat) 0 = true from by rw [Nat.testBit_or, hs0]; rfl) (show Nat.testBit (seen ||| 2 ^ (lt i).toNat) 5 = false from by rw [Nat.testBit_or, hs5, Nat.testBit_two_pow]; simp; omega) (show (seen ||| 2 ^ (lt i).toNat) < 64 from or_bd (N := 6) hsn (by omega)) (show (way ||| 2 ^ i) < 16384 from or_bd (N := 14) hw (by omega)) (show xs1.length = n1 from hl) (show LsA f1 xs1 from hs) (show xs1.Pairwise (· ≤ ·) from ho) (show ∀ x_ ∈ xs1, x_ < 16384 from hb_)) mm_X10_walk (hstk := rfl) (hlen := rfl) (hcat := Nat.le_of_ble_eq_true rfl) (isC := [0, 1, 2, 3, 4, 5]) (isR := []) (wr := []) (hC := rfl) (hR := rfl) (hnC := rfl) (hn := rfl) (hdis := by decide) (hR1 := ⟨Nat.le_of_ble_eq_true rfl, Nat.le_of_ble_eq_true rfl⟩) (hcs := ⟨Nat.le_of_ble_eq_true rfl, Nat.le_of_ble_eq_true rfl⟩) (fun v_ w_ hp_ => ?_)
            obtain ⟨n2_90, fb2_90, xs2_90, rfl, rfl, g90_l, g90_s, g90_o, g90_p, g90_b⟩ := hp_
            replace g90_l : xs2_90.length = n2_90 := g90_l
            replace g90_s : LsA fb2_90 xs2_90 := g90_s
            replace g90_o : xs2_90.Pairwise (· ≤ ·) := g90_o
            replace g90_p : xs2_90.Perm (wk nl lf lt 3 ((lt i).toNat) (seen ||| 2 ^ (lt i).toNat) (way ||| 2 ^ i) ++ xs1) := g90_p
            replace g90_b : ∀ x_ ∈ xs2_90, x_ < 16384 := g90_b
            show Wx _ _ _ _ _ _ _ _ _ _ _ _ _ _ _ _ 93 [(7, .int (iI ((way ||| 2 ^ i : Nat) : Int))), (6, .int (iI (((lt i).toNat : Nat) : Int))), (0, .ref k), (1, .int (iI (pt : Int))), (2, .int (iI (seen : Int))), (3, .int (iI (way : Int))), (4, .ref h), (5, .int (iI (i : Int)))] [] [(k, ob 9 [.ref lk, .int (iI s0), .ref lk]), (lk, ob 2 [.ref la_, .ref lb_, .int (iI (nl : Int)), .ref lf_, .ref lt_]), (lf_, ia E 14 lf), (lt_, ia E 14 lt), (h, ob 7 [.ref hb, .ref ha, .ref hc, .int (iI (n2_90 : Int)), .int (iI sg)]), (hb, ia E 2002 fb2_90)]
            refine x_iinc (pc' := 96) (lv' := [(5, .int (iI ((i : Int) + 1))), (7, .int (iI ((way ||| 2 ^ i : Nat) : Int))), (6, .int (iI (((lt i).toNat : Nat) : Int))), (0, .ref k), (1, .int (iI (pt : Int))), (2, .int (iI (seen : Int))), (3, .int (iI (way : Int))), (4, .ref h)]) C 7 dX10_walk_93 rfl (by decide) rfl rfl ?_
            refine x_lvI (lv' := [(5, .int (iI ((i + 1 : Nat) : Int))), (7, .int (iI ((way ||| 2 ^ i : Nat) : Int))), (6, .int (iI (((lt i).toNat : Nat) : Int))), (0, .ref k), (1, .int (iI (pt : Int))), (2, .int (iI (seen : Int))), (3, .int (iI (way : Int))), (4, .ref h)]) 0 rfl (by omega) rfl ?_
            refine x_goto (tgt := 3) C dX10_walk_96 (by decide) ?_
            refine x_lv [3, 4, 5, 6, 7, 0] rfl ?_
            exact ih3 ((i + 1), n2_90, fb2_90, xs2_90) ⟨(show (i + 1) ≤ nl from by omega), (show xs2_90.length = n2_90 from g90_l), (show LsA fb2_90 xs2_90 from g90_s), (show xs2_90.Pairwise (· ≤ ·) from g90_o), (show xs2_90.Perm (fm (wkF nl lf lt 3 pt seen way) (i + 1) ++ xs) from fm_perm hp_ hFi g90_p), (show ∀ x_ ∈ xs2_90, x_ < 16384 from g90_b)⟩ (show nl - (i + 1) < nl - i from by omega)
          ·
            have hFi : (wkF nl lf lt 3 pt seen way) i = [way ||| 2 ^ i] := by unfold wkF; rw [if_neg (by intro hh; rcases hh with hh | hh; exact hh (by omega); exact c47 hh), if_pos (by omega)]
            have hcx := fm_cap hp_ (show i < nl by omega) hcap
            rw [hFi, hl, List.length_singleton] at hcx
            refine x_aload (pc' := 69) C 6 dX10_walk_67 rfl rfl ?_
            refine x_iload (pc' := 71) C 0 dX10_walk_69 rfl rfl ?_
            refine x_callV (pc' := 74) (As := [.int (iI ((way ||| 2 ^ i : Nat) : Int))]) (rest := []) (q0 := 0) C rfl rfl cv_X10_36_X8 dX10_walk_71 rfl (c_X8_insert l E h hb ha hc n1 (way ||| 2 ^ i) sg f1 xs1 (show n1 < 2002 from by omega) (show (way ||| 2 ^ i) < 1000000 from by omega) (show xs1.length = n1 from hl) (show LsA f1 xs1 from hs) (show xs1.Pairwise (· ≤ ·) from ho) (show ∀ j (h : j < xs1.length), xs1[j] < 1000000 from get_bd (fun x_ hx_ => Nat.lt_trans (hb_ x_ hx_) (by decide)))) mm_X8_insert (hstk := rfl) (hlen := rfl) (hcat := Nat.le_of_ble_eq_true rfl) (isC := [4, 5]) (isR := [0, 1, 2, 3]) (wr := [(k, ob 9 [.ref lk, .int (iI s0), .ref lk]), (lk, ob 2 [.ref la_, .ref lb_, .int (iI (nl : Int)), .ref lf_, .ref lt_]), (lf_, ia E 14 lf), (lt_, ia E 14 lt)]) (hC := rfl) (hR := rfl) (hnC := rfl) (hn := rfl) (hdis := by decide) (hR1 := ⟨Nat.le_of_ble_eq_true rfl, Nat.le_of_ble_eq_true rfl⟩) (hcs := ⟨Nat.le_of_ble_eq_true rfl, Nat.le_of_ble_eq_true rfl⟩) (fun v_ w_ hp_ => ?_)
            obtain ⟨fb2_71, xs2_71, rfl, rfl, g71_l, g71_s, g71_o, g71_p⟩ := hp_
            replace g71_l : xs2_71.length = n1 + 1 := g71_l
            replace g71_s : LsA fb2_71 xs2_71 := g71_s
            replace g71_o : xs2_71.Pairwise (· ≤ ·) := g71_o
            replace g71_p : xs2_71.Perm ((way ||| 2 ^ i) :: xs1) := g71_p
            show Wx _ _ _ _ _ _ _ _ _ _ _ _ _ _ _ _ 74 [(7, .int (iI ((way ||| 2 ^ i : Nat) : Int))), (6, .int (iI (((lt i).toNat : Nat) : Int))), (0, .ref k), (1, .int (iI (pt : Int))), (2, .int (iI (seen : Int))), (3, .int (iI (way : Int))), (4, .ref h), (5, .int (iI (i : Int)))] [] [(k, ob 9 [.ref lk, .int (iI s0), .ref lk]), (lk, ob 2 [.ref la_, .ref lb_, .int (iI (nl : Int)), .ref lf_, .ref lt_]), (lf_, ia E 14 lf), (lt_, ia E 14 lt), (h, ob 7 [.ref hb, .ref ha, .ref hc, .int (iI ((n1 + 1 : Nat) : Int)), .int (iI sg)]), (hb, ia E 2002 fb2_71)]
            refine x_goto (tgt := 93) C dX10_walk_74 (by decide) ?_
            refine x_iinc (pc' := 96) (lv' := [(5, .int (iI ((i : Int) + 1))), (7, .int (iI ((way ||| 2 ^ i : Nat) : Int))), (6, .int (iI (((lt i).toNat : Nat) : Int))), (0, .ref k), (1, .int (iI (pt : Int))), (2, .int (iI (seen : Int))), (3, .int (iI (way : Int))), (4, .ref h)]) C 7 dX10_walk_93 rfl (by decide) rfl rfl ?_
            refine x_lvI (lv' := [(5, .int (iI ((i + 1 : Nat) : Int))), (7, .int (iI ((way ||| 2 ^ i : Nat) : Int))), (6, .int (iI (((lt i).toNat : Nat) : Int))), (0, .ref k), (1, .int (iI (pt : Int))), (2, .int (iI (seen : Int))), (3, .int (iI (way : Int))), (4, .ref h)]) 0 rfl (by omega) rfl ?_
            refine x_goto (tgt := 3) C dX10_walk_96 (by decide) ?_
            refine x_lv [3, 4, 5, 6, 7, 0] rfl ?_
            exact ih3 ((i + 1), (n1 + 1), fb2_71, xs2_71) ⟨(show (i + 1) ≤ nl from by omega), (show xs2_71.length = (n1 + 1) from g71_l), (show LsA fb2_71 xs2_71 from g71_s), (show xs2_71.Pairwise (· ≤ ·) from g71_o), (show xs2_71.Perm (fm (wkF nl lf lt 3 pt seen way) (i + 1) ++ xs) from fm_perm hp_ hFi g71_p), (show ∀ x_ ∈ xs2_71, x_ < 16384 from mem_bd (L := [way ||| 2 ^ i]) g71_p (one_bd (or_bd (N := 14) hw (by omega))) hb_)⟩ (show nl - (i + 1) < nl - i from by omega)
        ·
          replace c47 := bI_nz c47
          refine x_goto (tgt := 93) C dX10_walk_50 (by decide) ?_
          refine x_iinc (pc' := 96) (lv' := [(5, .int (iI ((i : Int) + 1))), (6, .int (iI (((lt i).toNat : Nat) : Int))), (0, .ref k), (1, .int (iI (pt : Int))), (2, .int (iI (seen : Int))), (3, .int (iI (way : Int))), (4, .ref h)]) C 6 dX10_walk_93 rfl (by decide) rfl rfl ?_
          refine x_lvI (lv' := [(5, .int (iI ((i + 1 : Nat) : Int))), (6, .int (iI (((lt i).toNat : Nat) : Int))), (0, .ref k), (1, .int (iI (pt : Int))), (2, .int (iI (seen : Int))), (3, .int (iI (way : Int))), (4, .ref h)]) 0 rfl (by omega) rfl ?_
          refine x_goto (tgt := 3) C dX10_walk_96 (by decide) ?_
          refine x_lv [2, 3, 4, 5, 6, 0] rfl ?_
          exact ih3 ((i + 1), n1, f1, xs1) ⟨(show (i + 1) ≤ nl from by omega), (show xs1.length = n1 from hl), (show LsA f1 xs1 from hs), (show xs1.Pairwise (· ≤ ·) from ho), (show xs1.Perm (fm (wkF nl lf lt 3 pt seen way) (i + 1) ++ xs) from fm_skip hp_ (by unfold wkF; rw [if_pos (by first | exact Or.inl c38 | exact Or.inr c47)])), (show ∀ x_ ∈ xs1, x_ < 16384 from hb_)⟩ (show nl - (i + 1) < nl - i from by omega)
  · exact ⟨(show 0 ≤ nl from by omega), (show xs.length = n from hlen), (show LsA fb xs from hls), (show xs.Pairwise (· ≤ ·) from hso), (show xs.Perm (fm (wkF nl lf lt 3 pt seen way) 0 ++ xs) from List.Perm.refl _), (show ∀ x_ ∈ xs, x_ < 16384 from hbd)⟩

set_option maxHeartbeats 4000000 in
set_option maxRecDepth 100000 in
theorem c_X10_walk_5 (l : Launch) (E : EV) (k : Nat) (lk : Nat) (la_ : Nat) (lb_ : Nat) (lf_ : Nat) (lt_ : Nat) (nl : Nat) (s0 : Int) (lf : Nat → Int) (lt : Nat → Int) (h : Nat) (hb : Nat) (ha : Nat) (hc : Nat) (sg : Int) (fb : Nat → Int) (n : Nat) (pt : Nat) (seen : Nat) (way : Nat) (xs : List Nat) (hnl : nl ≤ 14) (hlf : ∀ j_ : Nat, j_ < nl → 0 ≤ lf j_ ∧ lf j_ ≤ 5) (hlt : ∀ j_ : Nat, j_ < nl → 0 ≤ lt j_ ∧ lt j_ ≤ 5) (hcap : (wk nl lf lt 5 pt seen way).length + xs.length ≤ 2002) (hpt : pt ≤ 5) (hun : un seen < 5) (hs0 : Nat.testBit seen 0 = true) (hs5 : Nat.testBit seen 5 = false) (hsn : seen < 64) (hw : way < 16384) (hlen : xs.length = n) (hls : LsA fb xs) (hso : xs.Pairwise (· ≤ ·)) (hbd : ∀ x_ ∈ xs, x_ < 16384) : MC l E yX10_walk cX10_walk 8 (none) ({ frames := 5, cells := 0, slots := 0, locals := 130 }) [.ref k, .int (iI (pt : Int)), .int (iI (seen : Int)), .int (iI (way : Int)), .ref h] [(k, ob 9 [.ref lk, .int (iI s0), .ref lk]), (lk, ob 2 [.ref la_, .ref lb_, .int (iI (nl : Int)), .ref lf_, .ref lt_]), (lf_, ia E 14 lf), (lt_, ia E 14 lt), (h, ob 7 [.ref hb, .ref ha, .ref hc, .int (iI (n : Int)), .int (iI sg)]), (hb, ia E 2002 fb)] (fun v_ w_ => ∃ (n2 : Nat) (fb2 : Nat → Int) (xs2 : List Nat), v_ = none ∧ w_ = [(k, ob 9 [.ref lk, .int (iI s0), .ref lk]), (lk, ob 2 [.ref la_, .ref lb_, .int (iI (nl : Int)), .ref lf_, .ref lt_]), (lf_, ia E 14 lf), (lt_, ia E 14 lt), (h, ob 7 [.ref hb, .ref ha, .ref hc, .int (iI (n2 : Int)), .int (iI sg)]), (hb, ia E 2002 fb2)] ∧ (xs2.length = n2) ∧ (LsA fb2 xs2) ∧ (xs2.Pairwise (· ≤ ·)) ∧ (xs2.Perm (wk nl lf lt 5 pt seen way ++ xs)) ∧ (∀ x_ ∈ xs2, x_ < 16384)) := by
  refine MC.of (by decide +kernel) (Nat.le_of_ble_eq_true rfl) ?_
  intro p_ e_ s_ m_ args_ below_ meth_ c_ A_ C hr hnm
  have C : Cx p_ s_ m_ args_ meth_ c_ E A_ 8 cX10_walk RX10 := C
  show Wx _ _ _ _ _ _ _ _ _ _ _ _ _ _ _ _ 0 [(0, .ref k), (1, .int (iI (pt : Int))), (2, .int (iI (seen : Int))), (3, .int (iI (way : Int))), (4, .ref h)] [] [(k, ob 9 [.ref lk, .int (iI s0), .ref lk]), (lk, ob 2 [.ref la_, .ref lb_, .int (iI (nl : Int)), .ref lf_, .ref lt_]), (lf_, ia E 14 lf), (lt_, ia E 14 lt), (h, ob 7 [.ref hb, .ref ha, .ref hc, .int (iI (n : Int)), .int (iI sg)]), (hb, ia E 2002 fb)]
  refine x_iconst (pc' := 1) C dX10_walk_0 rfl ?_
  refine x_istore (pc' := 3) (lv' := [(5, .int (iI 0)), (0, .ref k), (1, .int (iI (pt : Int))), (2, .int (iI (seen : Int))), (3, .int (iI (way : Int))), (4, .ref h)]) C dX10_walk_1 rfl (by decide) rfl ?_
  refine x_lv [1, 2, 3, 4, 5, 0] rfl ?_
  refine x_loop (α := (Nat) × (Nat) × (Nat → Int) × (List Nat)) (fun a_ => (a_.1 ≤ nl) ∧ (a_.2.2.2.length = a_.2.1) ∧ (LsA a_.2.2.1 a_.2.2.2) ∧ (a_.2.2.2.Pairwise (· ≤ ·)) ∧ (a_.2.2.2.Perm (fm (wkF nl lf lt 4 pt seen way) a_.1 ++ xs)) ∧ (∀ x_ ∈ a_.2.2.2, x_ < 16384)) (fun a_ => nl - a_.1) (fun a_ => [(0, .ref k), (1, .int (iI (pt : Int))), (2, .int (iI (seen : Int))), (3, .int (iI (way : Int))), (4, .ref h), (5, .int (iI (a_.1 : Int)))]) (fun a_ => [(k, ob 9 [.ref lk, .int (iI s0), .ref lk]), (lk, ob 2 [.ref la_, .ref lb_, .int (iI (nl : Int)), .ref lf_, .ref lt_]), (lf_, ia E 14 lf), (lt_, ia E 14 lt), (h, ob 7 [.ref hb, .ref ha, .ref hc, .int (iI (a_.2.1 : Int)), .int (iI sg)]), (hb, ia E 2002 a_.2.2.1)]) ?_ (0, n, fb, xs) ?_
  · intro a_ hI_ ih3
    obtain ⟨i, n1, f1, xs1⟩ := a_
    obtain ⟨hi, hl, hs, ho, hp_, hb_⟩ := hI_
    replace hi : i ≤ nl := hi
    replace hl : xs1.length = n1 := hl
    replace hs : LsA f1 xs1 := hs
    replace ho : xs1.Pairwise (· ≤ ·) := ho
    replace hp_ : xs1.Perm (fm (wkF nl lf lt 4 pt seen way) i ++ xs) := hp_
    replace hb_ : ∀ x_ ∈ xs1, x_ < 16384 := hb_
    show Wx _ _ _ _ _ _ _ _ _ _ _ _ _ _ _ _ 3 [(0, .ref k), (1, .int (iI (pt : Int))), (2, .int (iI (seen : Int))), (3, .int (iI (way : Int))), (4, .ref h), (5, .int (iI (i : Int)))] [] [(k, ob 9 [.ref lk, .int (iI s0), .ref lk]), (lk, ob 2 [.ref la_, .ref lb_, .int (iI (nl : Int)), .ref lf_, .ref lt_]), (lf_, ia E 14 lf), (lt_, ia E 14 lt), (h, ob 7 [.ref hb, .ref ha, .ref hc, .int (iI (n1 : Int)), .int (iI sg)]), (hb, ia E 2002 f1)]
    refine x_iload (pc' := 5) C 5 dX10_walk_3 rfl rfl ?_
    refine x_aload_n (pc' := 6) C 0 dX10_walk_5 rfl rfl ?_
    refine x_get (pc' := 9) C dX10_walk_6 rfl ff_X10_9_9 0 rfl rfl ?_
    refine x_get (pc' := 12) C dX10_walk_9 rfl ff_X10_19_2 1 rfl rfl ?_
    refine x_icmp_ge (pc' := 15) (tgt := 99) C dX10_walk_12 rfl (by decide) (by omega) (by omega) (fun c12 => ?_) (fun c12 => ?_)
    ·
      exact x_vret C hr dX10_walk_99 ⟨n1, f1, xs1, rfl, rfl, (show xs1.length = n1 from hl), (show LsA f1 xs1 from hs), (show xs1.Pairwise (· ≤ ·) from ho), (show xs1.Perm (wk nl lf lt 5 pt seen way ++ xs) from by have e_ : i = nl := (by omega); subst e_; exact hp_), (show ∀ x_ ∈ xs1, x_ < 16384 from hb_)⟩
    ·
      have hf1 := hlf i (by omega)
      have ht1 := hlt i (by omega)
      refine x_aload_n (pc' := 16) C 0 dX10_walk_15 rfl rfl ?_
      refine x_get (pc' := 19) C dX10_walk_16 rfl ff_X10_9_9 0 rfl rfl ?_
      refine x_get (pc' := 22) C dX10_walk_19 rfl ff_X10_25_2 1 rfl rfl ?_
      refine x_iload (pc' := 24) C 5 dX10_walk_22 rfl rfl ?_
      refine x_iald (pc' := 25) C i dX10_walk_24 rfl 3 rfl (by omega) (by omega) (by omega) ?_
      refine x_top (b := .int (iI (((lt i).toNat : Nat) : Int))) (by congr 2; omega) ?_
      refine x_istore (pc' := 27) (lv' := [(6, .int (iI (((lt i).toNat : Nat) : Int))), (0, .ref k), (1, .int (iI (pt : Int))), (2, .int (iI (seen : Int))), (3, .int (iI (way : Int))), (4, .ref h), (5, .int (iI (i : Int)))]) C dX10_walk_25 rfl (by decide) rfl ?_
      refine x_aload_n (pc' := 28) C 1 dX10_walk_27 rfl rfl ?_
      refine x_get (pc' := 31) C dX10_walk_28 rfl ff_X10_9_9 0 rfl rfl ?_
      refine x_get (pc' := 34) C dX10_walk_31 rfl ff_X10_29_2 1 rfl rfl ?_
      refine x_iload (pc' := 36) C 6 dX10_walk_34 rfl rfl ?_
      refine x_iald (pc' := 37) C i dX10_walk_36 rfl 2 rfl (by omega) (by omega) (by omega) ?_
      refine x_iload_n (pc' := 38) C 2 dX10_walk_37 rfl rfl ?_
      refine x_icmp_ne (pc' := 41) (tgt := 93) C dX10_walk_38 rfl (by decide) (by omega) (by omega) (fun c38 => ?_) (fun c38 => ?_)
      ·
        refine x_iinc (pc' := 96) (lv' := [(5, .int (iI ((i : Int) + 1))), (6, .int (iI (((lt i).toNat : Nat) : Int))), (0, .ref k), (1, .int (iI (pt : Int))), (2, .int (iI (seen : Int))), (3, .int (iI (way : Int))), (4, .ref h)]) C 6 dX10_walk_93 rfl (by decide) rfl rfl ?_
        refine x_lvI (lv' := [(5, .int (iI ((i + 1 : Nat) : Int))), (6, .int (iI (((lt i).toNat : Nat) : Int))), (0, .ref k), (1, .int (iI (pt : Int))), (2, .int (iI (seen : Int))), (3, .int (iI (way : Int))), (4, .ref h)]) 0 rfl (by omega) rfl ?_
        refine x_goto (tgt := 3) C dX10_walk_96 (by decide) ?_
        refine x_lv [2, 3, 4, 5, 6, 0] rfl ?_
        exact ih3 ((i + 1), n1, f1, xs1) ⟨(show (i + 1) ≤ nl from by omega), (show xs1.length = n1 from hl), (show LsA f1 xs1 from hs), (show xs1.Pairwise (· ≤ ·) from ho), (show xs1.Perm (fm (wkF nl lf lt 4 pt seen way) (i + 1) ++ xs) from fm_skip hp_ (by unfold wkF; rw [if_pos (by first | exact Or.inl c38 | exact Or.inr c47)])), (show ∀ x_ ∈ xs1, x_ < 16384 from hb_)⟩ (show nl - (i + 1) < nl - i from by omega)
      ·
        refine x_iload_n (pc' := 42) C 3 dX10_walk_41 rfl rfl ?_
        refine x_iload (pc' := 44) C 0 dX10_walk_42 rfl rfl ?_
        refine x_callN (pc' := 47) (As := [.int (iI (seen : Int)), .int (iI (((lt i).toNat : Nat) : Int))]) (rest := []) C cn_X10_32 dX10_walk_44 rfl (c_X11_holds l E seen ((lt i).toNat) (show seen < 2147483648 from by omega) (show ((lt i).toNat) < 32 from by omega)) mm_X11_holds (hstk := rfl) (hlen := rfl) (hcat := Nat.le_of_ble_eq_true rfl) (isC := []) (isR := [0, 1, 2, 3, 4, 5]) (wr := [(k, ob 9 [.ref lk, .int (iI s0), .ref lk]), (lk, ob 2 [.ref la_, .ref lb_, .int (iI (nl : Int)), .ref lf_, .ref lt_]), (lf_, ia E 14 lf), (lt_, ia E 14 lt), (h, ob 7 [.ref hb, .ref ha, .ref hc, .int (iI (n1 : Int)), .int (iI sg)]), (hb, ia E 2002 f1)]) (hC := rfl) (hR := rfl) (hnC := rfl) (hn := rfl) (hdis := by decide) (hR1 := ⟨Nat.le_of_ble_eq_true rfl, Nat.le_of_ble_eq_true rfl⟩) (hcs := ⟨Nat.le_of_ble_eq_true rfl, Nat.le_of_ble_eq_true rfl⟩) (fun v_ w_ hp_ => ?_)
        obtain ⟨rfl, rfl⟩ := hp_
        show Wx _ _ _ _ _ _ _ _ _ _ _ _ _ _ _ _ 47 [(6, .int (iI (((lt i).toNat : Nat) : Int))), (0, .ref k), (1, .int (iI (pt : Int))), (2, .int (iI (seen : Int))), (3, .int (iI (way : Int))), (4, .ref h), (5, .int (iI (i : Int)))] [.int (iI (bI (seen.testBit ((lt i).toNat) = true)))] [(k, ob 9 [.ref lk, .int (iI s0), .ref lk]), (lk, ob 2 [.ref la_, .ref lb_, .int (iI (nl : Int)), .ref lf_, .ref lt_]), (lf_, ia E 14 lf), (lt_, ia E 14 lt), (h, ob 7 [.ref hb, .ref ha, .ref hc, .int (iI (n1 : Int)), .int (iI sg)]), (hb, ia E 2002 f1)]
        refine x_if_eq (pc' := 50) (tgt := 53) C dX10_walk_47 rfl (by decide) (bI_rng) (fun c47 => ?_) (fun c47 => ?_)
        ·
          replace c47 := bI_z c47
          have hnz : ¬ lt i = 0 := by intro hh; apply c47; rw [hh]; exact hs0
          have hob : way ||| 2 ^ i < 2 ^ 14 := or_bd (N := 14) hw (by omega)
          refine x_iload_n (pc' := 54) C 4 dX10_walk_53 rfl rfl ?_
          refine x_iconst (pc' := 55) C dX10_walk_54 rfl ?_
          refine x_iload (pc' := 57) C 6 dX10_walk_55 rfl rfl ?_
          refine x_ishl (pc' := 58) (z := (iI ((2 ^ i : Nat) : Int))) C dX10_walk_57 rfl (bt_shl (by omega)) ?_
          refine x_ior (pc' := 59) (z := (iI ((way ||| 2 ^ i : Nat) : Int))) C dX10_walk_58 rfl (bt_or _ _) ?_
          refine x_istore (pc' := 61) (lv' := [(7, .int (iI ((way ||| 2 ^ i : Nat) : Int))), (6, .int (iI (((lt i).toNat : Nat) : Int))), (0, .ref k), (1, .int (iI (pt : Int))), (2, .int (iI (seen : Int))), (3, .int (iI (way : Int))), (4, .ref h), (5, .int (iI (i : Int)))]) C dX10_walk_59 rfl (by decide) rfl ?_
          refine x_iload (pc' := 63) C 1 dX10_walk_61 rfl rfl ?_
          refine x_iconst (pc' := 64) C dX10_walk_63 rfl ?_
          refine x_icmp_ne (pc' := 67) (tgt := 77) C dX10_walk_64 rfl (by decide) (by omega) (by omega) (fun c64 => ?_) (fun c64 => ?_)
          ·
            have hop : seen ||| 2 ^ (lt i).toNat < 2 ^ 6 := or_bd (N := 6) hsn (by omega)
            refine x_aload_n (pc' := 78) C 2 dX10_walk_77 rfl rfl ?_
            refine x_iload (pc' := 80) C 1 dX10_walk_78 rfl rfl ?_
            refine x_iload_n (pc' := 81) C 4 dX10_walk_80 rfl rfl ?_
            refine x_iconst (pc' := 82) C dX10_walk_81 rfl ?_
            refine x_iload (pc' := 84) C 1 dX10_walk_82 rfl rfl ?_
            refine x_ishl (pc' := 85) (z := (iI ((2 ^ (lt i).toNat : Nat) : Int))) C dX10_walk_84 rfl (bt_shl (by omega)) ?_
            refine x_ior (pc' := 86) (z := (iI ((seen ||| 2 ^ (lt i).toNat : Nat) : Int))) C dX10_walk_85 rfl (bt_or _ _) ?_
            refine x_iload (pc' := 88) C 0 dX10_walk_86 rfl rfl ?_
            refine x_aload (pc' := 90) C 6 dX10_walk_88 rfl rfl ?_
            have hFi : (wkF nl lf lt 4 pt seen way) i = wk nl lf lt 4 (lt i).toNat (seen ||| 2 ^ (lt i).toNat) (way ||| 2 ^ i) := by unfold wkF; rw [if_neg (by intro hh; rcases hh with hh | hh; exact hh (by omega); exact c47 hh), if_neg (by omega)]
            refine x_callV (pc' := 93) (As := [.int (iI (((lt i).toNat : Nat) : Int)), .int (iI ((seen ||| 2 ^ (lt i).toNat : Nat) : Int)), .int (iI ((way ||| 2 ^ i : Nat) : Int)), .ref h]) (rest := []) (q0 := 0) C rfl rfl cv_X10_15_X10 dX10_walk_90 rfl (c_X10_walk_4 l E k lk la_ lb_ lf_ lt_ nl s0 lf lt h hb ha hc sg f1 n1 ((lt i).toNat) (seen ||| 2 ^ (lt i).toNat) (way ||| 2 ^ i) xs1 (show nl ≤ 14 from by omega) (show ∀ j_ : Nat, j_ < nl → 0 ≤ lf j_ ∧ lf j_ ≤ 5 from hlf) (show ∀ j_ : Nat, j_ < nl → 0 ≤ lt j_ ∧ lt j_ ≤ 5 from hlt) (show (wk nl lf lt 4 ((lt i).toNat) (seen ||| 2 ^ (lt i).toNat) (way ||| 2 ^ i)).length + xs1.length ≤ 2002 from by have hcx := fm_cap hp_ (show i < nl by omega) hcap; rw [hFi] at hcx; rw [hl] at hcx; omega) (show ((lt i).toNat) ≤ 5 from by omega) (show un (seen ||| 2 ^ (lt i).toNat) < 4 from by have := un_less (show 0 < (lt i).toNat by omega) (by omega) c47; omega) (show Nat.testBit (seen ||| 2 ^ (lt i).toNat) 0 = true from by rw [Nat.testBit_or, hs0]; rfl) (show Nat.testBit (seen ||| 2 ^ (lt i).toNat) 5 = false from by rw [Nat.testBit_or, hs5, Nat.testBit_two_pow]; simp; omega) (show (seen ||| 2 ^ (lt i).toNat) < 64 from or_bd (N := 6) hsn (by omega)) (show (way ||| 2 ^ i) < 16384 from or_bd (N := 14) hw (by omega)) (show xs1.length = n1 from hl) (show LsA f1 xs1 from hs) (show xs1.Pairwise (· ≤ ·) from ho) (show ∀ x_ ∈ xs1, x_ < 16384 from hb_)) mm_X10_walk (hstk := rfl) (hlen := rfl) (hcat := Nat.le_of_ble_eq_true rfl) (isC := [0, 1, 2, 3, 4, 5]) (isR := []) (wr := []) (hC := rfl) (hR := rfl) (hnC := rfl) (hn := rfl) (hdis := by decide) (hR1 := ⟨Nat.le_of_ble_eq_true rfl, Nat.le_of_ble_eq_true rfl⟩) (hcs := ⟨Nat.le_of_ble_eq_true rfl, Nat.le_of_ble_eq_true rfl⟩) (fun v_ w_ hp_ => ?_)
            obtain ⟨n2_90, fb2_90, xs2_90, rfl, rfl, g90_l, g90_s, g90_o, g90_p, g90_b⟩ := hp_
            replace g90_l : xs2_90.length = n2_90 := g90_l
            replace g90_s : LsA fb2_90 xs2_90 := g90_s
            replace g90_o : xs2_90.Pairwise (· ≤ ·) := g90_o
            replace g90_p : xs2_90.Perm (wk nl lf lt 4 ((lt i).toNat) (seen ||| 2 ^ (lt i).toNat) (way ||| 2 ^ i) ++ xs1) := g90_p
            replace g90_b : ∀ x_ ∈ xs2_90, x_ < 16384 := g90_b
            show Wx _ _ _ _ _ _ _ _ _ _ _ _ _ _ _ _ 93 [(7, .int (iI ((way ||| 2 ^ i : Nat) : Int))), (6, .int (iI (((lt i).toNat : Nat) : Int))), (0, .ref k), (1, .int (iI (pt : Int))), (2, .int (iI (seen : Int))), (3, .int (iI (way : Int))), (4, .ref h), (5, .int (iI (i : Int)))] [] [(k, ob 9 [.ref lk, .int (iI s0), .ref lk]), (lk, ob 2 [.ref la_, .ref lb_, .int (iI (nl : Int)), .ref lf_, .ref lt_]), (lf_, ia E 14 lf), (lt_, ia E 14 lt), (h, ob 7 [.ref hb, .ref ha, .ref hc, .int (iI (n2_90 : Int)), .int (iI sg)]), (hb, ia E 2002 fb2_90)]
            refine x_iinc (pc' := 96) (lv' := [(5, .int (iI ((i : Int) + 1))), (7, .int (iI ((way ||| 2 ^ i : Nat) : Int))), (6, .int (iI (((lt i).toNat : Nat) : Int))), (0, .ref k), (1, .int (iI (pt : Int))), (2, .int (iI (seen : Int))), (3, .int (iI (way : Int))), (4, .ref h)]) C 7 dX10_walk_93 rfl (by decide) rfl rfl ?_
            refine x_lvI (lv' := [(5, .int (iI ((i + 1 : Nat) : Int))), (7, .int (iI ((way ||| 2 ^ i : Nat) : Int))), (6, .int (iI (((lt i).toNat : Nat) : Int))), (0, .ref k), (1, .int (iI (pt : Int))), (2, .int (iI (seen : Int))), (3, .int (iI (way : Int))), (4, .ref h)]) 0 rfl (by omega) rfl ?_
            refine x_goto (tgt := 3) C dX10_walk_96 (by decide) ?_
            refine x_lv [3, 4, 5, 6, 7, 0] rfl ?_
            exact ih3 ((i + 1), n2_90, fb2_90, xs2_90) ⟨(show (i + 1) ≤ nl from by omega), (show xs2_90.length = n2_90 from g90_l), (show LsA fb2_90 xs2_90 from g90_s), (show xs2_90.Pairwise (· ≤ ·) from g90_o), (show xs2_90.Perm (fm (wkF nl lf lt 4 pt seen way) (i + 1) ++ xs) from fm_perm hp_ hFi g90_p), (show ∀ x_ ∈ xs2_90, x_ < 16384 from g90_b)⟩ (show nl - (i + 1) < nl - i from by omega)
          ·
            have hFi : (wkF nl lf lt 4 pt seen way) i = [way ||| 2 ^ i] := by unfold wkF; rw [if_neg (by intro hh; rcases hh with hh | hh; exact hh (by omega); exact c47 hh), if_pos (by omega)]
            have hcx := fm_cap hp_ (show i < nl by omega) hcap
            rw [hFi, hl, List.length_singleton] at hcx
            refine x_aload (pc' := 69) C 6 dX10_walk_67 rfl rfl ?_
            refine x_iload (pc' := 71) C 0 dX10_walk_69 rfl rfl ?_
            refine x_callV (pc' := 74) (As := [.int (iI ((way ||| 2 ^ i : Nat) : Int))]) (rest := []) (q0 := 0) C rfl rfl cv_X10_36_X8 dX10_walk_71 rfl (c_X8_insert l E h hb ha hc n1 (way ||| 2 ^ i) sg f1 xs1 (show n1 < 2002 from by omega) (show (way ||| 2 ^ i) < 1000000 from by omega) (show xs1.length = n1 from hl) (show LsA f1 xs1 from hs) (show xs1.Pairwise (· ≤ ·) from ho) (show ∀ j (h : j < xs1.length), xs1[j] < 1000000 from get_bd (fun x_ hx_ => Nat.lt_trans (hb_ x_ hx_) (by decide)))) mm_X8_insert (hstk := rfl) (hlen := rfl) (hcat := Nat.le_of_ble_eq_true rfl) (isC := [4, 5]) (isR := [0, 1, 2, 3]) (wr := [(k, ob 9 [.ref lk, .int (iI s0), .ref lk]), (lk, ob 2 [.ref la_, .ref lb_, .int (iI (nl : Int)), .ref lf_, .ref lt_]), (lf_, ia E 14 lf), (lt_, ia E 14 lt)]) (hC := rfl) (hR := rfl) (hnC := rfl) (hn := rfl) (hdis := by decide) (hR1 := ⟨Nat.le_of_ble_eq_true rfl, Nat.le_of_ble_eq_true rfl⟩) (hcs := ⟨Nat.le_of_ble_eq_true rfl, Nat.le_of_ble_eq_true rfl⟩) (fun v_ w_ hp_ => ?_)
            obtain ⟨fb2_71, xs2_71, rfl, rfl, g71_l, g71_s, g71_o, g71_p⟩ := hp_
            replace g71_l : xs2_71.length = n1 + 1 := g71_l
            replace g71_s : LsA fb2_71 xs2_71 := g71_s
            replace g71_o : xs2_71.Pairwise (· ≤ ·) := g71_o
            replace g71_p : xs2_71.Perm ((way ||| 2 ^ i) :: xs1) := g71_p
            show Wx _ _ _ _ _ _ _ _ _ _ _ _ _ _ _ _ 74 [(7, .int (iI ((way ||| 2 ^ i : Nat) : Int))), (6, .int (iI (((lt i).toNat : Nat) : Int))), (0, .ref k), (1, .int (iI (pt : Int))), (2, .int (iI (seen : Int))), (3, .int (iI (way : Int))), (4, .ref h), (5, .int (iI (i : Int)))] [] [(k, ob 9 [.ref lk, .int (iI s0), .ref lk]), (lk, ob 2 [.ref la_, .ref lb_, .int (iI (nl : Int)), .ref lf_, .ref lt_]), (lf_, ia E 14 lf), (lt_, ia E 14 lt), (h, ob 7 [.ref hb, .ref ha, .ref hc, .int (iI ((n1 + 1 : Nat) : Int)), .int (iI sg)]), (hb, ia E 2002 fb2_71)]
            refine x_goto (tgt := 93) C dX10_walk_74 (by decide) ?_
            refine x_iinc (pc' := 96) (lv' := [(5, .int (iI ((i : Int) + 1))), (7, .int (iI ((way ||| 2 ^ i : Nat) : Int))), (6, .int (iI (((lt i).toNat : Nat) : Int))), (0, .ref k), (1, .int (iI (pt : Int))), (2, .int (iI (seen : Int))), (3, .int (iI (way : Int))), (4, .ref h)]) C 7 dX10_walk_93 rfl (by decide) rfl rfl ?_
            refine x_lvI (lv' := [(5, .int (iI ((i + 1 : Nat) : Int))), (7, .int (iI ((way ||| 2 ^ i : Nat) : Int))), (6, .int (iI (((lt i).toNat : Nat) : Int))), (0, .ref k), (1, .int (iI (pt : Int))), (2, .int (iI (seen : Int))), (3, .int (iI (way : Int))), (4, .ref h)]) 0 rfl (by omega) rfl ?_
            refine x_goto (tgt := 3) C dX10_walk_96 (by decide) ?_
            refine x_lv [3, 4, 5, 6, 7, 0] rfl ?_
            exact ih3 ((i + 1), (n1 + 1), fb2_71, xs2_71) ⟨(show (i + 1) ≤ nl from by omega), (show xs2_71.length = (n1 + 1) from g71_l), (show LsA fb2_71 xs2_71 from g71_s), (show xs2_71.Pairwise (· ≤ ·) from g71_o), (show xs2_71.Perm (fm (wkF nl lf lt 4 pt seen way) (i + 1) ++ xs) from fm_perm hp_ hFi g71_p), (show ∀ x_ ∈ xs2_71, x_ < 16384 from mem_bd (L := [way ||| 2 ^ i]) g71_p (one_bd (or_bd (N := 14) hw (by omega))) hb_)⟩ (show nl - (i + 1) < nl - i from by omega)
        ·
          replace c47 := bI_nz c47
          refine x_goto (tgt := 93) C dX10_walk_50 (by decide) ?_
          refine x_iinc (pc' := 96) (lv' := [(5, .int (iI ((i : Int) + 1))), (6, .int (iI (((lt i).toNat : Nat) : Int))), (0, .ref k), (1, .int (iI (pt : Int))), (2, .int (iI (seen : Int))), (3, .int (iI (way : Int))), (4, .ref h)]) C 6 dX10_walk_93 rfl (by decide) rfl rfl ?_
          refine x_lvI (lv' := [(5, .int (iI ((i + 1 : Nat) : Int))), (6, .int (iI (((lt i).toNat : Nat) : Int))), (0, .ref k), (1, .int (iI (pt : Int))), (2, .int (iI (seen : Int))), (3, .int (iI (way : Int))), (4, .ref h)]) 0 rfl (by omega) rfl ?_
          refine x_goto (tgt := 3) C dX10_walk_96 (by decide) ?_
          refine x_lv [2, 3, 4, 5, 6, 0] rfl ?_
          exact ih3 ((i + 1), n1, f1, xs1) ⟨(show (i + 1) ≤ nl from by omega), (show xs1.length = n1 from hl), (show LsA f1 xs1 from hs), (show xs1.Pairwise (· ≤ ·) from ho), (show xs1.Perm (fm (wkF nl lf lt 4 pt seen way) (i + 1) ++ xs) from fm_skip hp_ (by unfold wkF; rw [if_pos (by first | exact Or.inl c38 | exact Or.inr c47)])), (show ∀ x_ ∈ xs1, x_ < 16384 from hb_)⟩ (show nl - (i + 1) < nl - i from by omega)
  · exact ⟨(show 0 ≤ nl from by omega), (show xs.length = n from hlen), (show LsA fb xs from hls), (show xs.Pairwise (· ≤ ·) from hso), (show xs.Perm (fm (wkF nl lf lt 4 pt seen way) 0 ++ xs) from List.Perm.refl _), (show ∀ x_ ∈ xs, x_ < 16384 from hbd)⟩

set_option maxHeartbeats 4000000 in
set_option maxRecDepth 100000 in
theorem c_X10_listPlans (l : Launch) (E : EV) (k : Nat) (lk : Nat) (la_ : Nat) (lb_ : Nat) (lf_ : Nat) (lt_ : Nat) (nl : Nat) (s0 : Int) (lf : Nat → Int) (lt : Nat → Int) (h : Nat) (hb : Nat) (ha : Nat) (hc : Nat) (sg : Int) (fb : Nat → Int) (hnl : nl ≤ 14) (hlf : ∀ j_ : Nat, j_ < nl → 0 ≤ lf j_ ∧ lf j_ ≤ 5) (hlt : ∀ j_ : Nat, j_ < nl → 0 ≤ lt j_ ∧ lt j_ ≤ 5) (hcap : (wk nl lf lt 5 0 1 0).length ≤ 2002) : MC l E yX10_listPlans cX10_listPlans 2 (none) ({ frames := 6, cells := 0, slots := 0, locals := 157 }) [.ref k, .ref h] [(k, ob 9 [.ref lk, .int (iI s0), .ref lk]), (lk, ob 2 [.ref la_, .ref lb_, .int (iI (nl : Int)), .ref lf_, .ref lt_]), (lf_, ia E 14 lf), (lt_, ia E 14 lt), (h, ob 7 [.ref hb, .ref ha, .ref hc, .int (iI 0), .int (iI sg)]), (hb, ia E 2002 fb)] (fun v_ w_ => ∃ (n2 : Nat) (fb2 : Nat → Int) (xs2 : List Nat), v_ = none ∧ w_ = [(k, ob 9 [.ref lk, .int (iI s0), .ref lk]), (lk, ob 2 [.ref la_, .ref lb_, .int (iI (nl : Int)), .ref lf_, .ref lt_]), (lf_, ia E 14 lf), (lt_, ia E 14 lt), (h, ob 7 [.ref hb, .ref ha, .ref hc, .int (iI (n2 : Int)), .int (iI sg)]), (hb, ia E 2002 fb2)] ∧ (xs2.length = n2) ∧ (LsA fb2 xs2) ∧ (xs2.Pairwise (· ≤ ·)) ∧ (xs2.Perm (wk nl lf lt 5 0 1 0 ++ [])) ∧ (∀ x_ ∈ xs2, x_ < 16384)) := by
  refine MC.of (by decide +kernel) (Nat.le_of_ble_eq_true rfl) ?_
  intro p_ e_ s_ m_ args_ below_ meth_ c_ A_ C hr hnm
  have C : Cx p_ s_ m_ args_ meth_ c_ E A_ 2 cX10_listPlans RX10 := C
  show Wx _ _ _ _ _ _ _ _ _ _ _ _ _ _ _ _ 0 [(0, .ref k), (1, .ref h)] [] [(k, ob 9 [.ref lk, .int (iI s0), .ref lk]), (lk, ob 2 [.ref la_, .ref lb_, .int (iI (nl : Int)), .ref lf_, .ref lt_]), (lf_, ia E 14 lf), (lt_, ia E 14 lt), (h, ob 7 [.ref hb, .ref ha, .ref hc, .int (iI 0), .int (iI sg)]), (hb, ia E 2002 fb)]
  refine x_aload_n (pc' := 1) C 0 dX10_listPlans_0 rfl rfl ?_
  refine x_iconst (pc' := 2) C dX10_listPlans_1 rfl ?_
  refine x_iconst (pc' := 3) C dX10_listPlans_2 rfl ?_
  refine x_iconst (pc' := 4) C dX10_listPlans_3 rfl ?_
  refine x_aload_n (pc' := 5) C 1 dX10_listPlans_4 rfl rfl ?_
  refine x_callV (pc' := 8) (As := [.int (iI 0), .int (iI 1), .int (iI 0), .ref h]) (rest := []) (q0 := 0) C rfl rfl cv_X10_15_X10 dX10_listPlans_5 rfl (c_X10_walk_5 l E k lk la_ lb_ lf_ lt_ nl s0 lf lt h hb ha hc sg fb 0 0 1 0 ([]) (show nl ≤ 14 from by omega) (show ∀ j_ : Nat, j_ < nl → 0 ≤ lf j_ ∧ lf j_ ≤ 5 from hlf) (show ∀ j_ : Nat, j_ < nl → 0 ≤ lt j_ ∧ lt j_ ≤ 5 from hlt) (show (wk nl lf lt 5 0 1 0).length + ([]).length ≤ 2002 from by simpa using hcap) (show 0 ≤ 5 from by omega) (show un 1 < 5 from by decide) (show Nat.testBit 1 0 = true from by decide) (show Nat.testBit 1 5 = false from by decide) (show 1 < 64 from by omega) (show 0 < 16384 from by omega) (show ([]).length = 0 from rfl) (show LsA fb ([]) from LsA.nil) (show ([]).Pairwise (· ≤ ·) from List.Pairwise.nil) (show ∀ x_ ∈ ([]), x_ < 16384 from fun x_ hx_ => absurd hx_ List.not_mem_nil)) mm_X10_walk (hstk := rfl) (hlen := rfl) (hcat := Nat.le_of_ble_eq_true rfl) (isC := [0, 1, 2, 3, 4, 5]) (isR := []) (wr := []) (hC := rfl) (hR := rfl) (hnC := rfl) (hn := rfl) (hdis := by decide) (hR1 := ⟨Nat.le_of_ble_eq_true rfl, Nat.le_of_ble_eq_true rfl⟩) (hcs := ⟨Nat.le_of_ble_eq_true rfl, Nat.le_of_ble_eq_true rfl⟩) (fun v_ w_ hp_ => ?_)
  obtain ⟨n2_5, fb2_5, xs2_5, rfl, rfl, g5_l, g5_s, g5_o, g5_p, g5_b⟩ := hp_
  replace g5_l : xs2_5.length = n2_5 := g5_l
  replace g5_s : LsA fb2_5 xs2_5 := g5_s
  replace g5_o : xs2_5.Pairwise (· ≤ ·) := g5_o
  replace g5_p : xs2_5.Perm (wk nl lf lt 5 0 1 0 ++ ([])) := g5_p
  replace g5_b : ∀ x_ ∈ xs2_5, x_ < 16384 := g5_b
  show Wx _ _ _ _ _ _ _ _ _ _ _ _ _ _ _ _ 8 [(0, .ref k), (1, .ref h)] [] [(k, ob 9 [.ref lk, .int (iI s0), .ref lk]), (lk, ob 2 [.ref la_, .ref lb_, .int (iI (nl : Int)), .ref lf_, .ref lt_]), (lf_, ia E 14 lf), (lt_, ia E 14 lt), (h, ob 7 [.ref hb, .ref ha, .ref hc, .int (iI (n2_5 : Int)), .int (iI sg)]), (hb, ia E 2002 fb2_5)]
  exact x_vret C hr dX10_listPlans_8 ⟨n2_5, fb2_5, xs2_5, rfl, rfl, (show xs2_5.length = n2_5 from g5_l), (show LsA fb2_5 xs2_5 from g5_s), (show xs2_5.Pairwise (· ≤ ·) from g5_o), (show xs2_5.Perm (wk nl lf lt 5 0 1 0 ++ []) from g5_p), (show ∀ x_ ∈ xs2_5, x_ < 16384 from g5_b)⟩
