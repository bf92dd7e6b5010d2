set_option maxHeartbeats 4000000 in
set_option maxRecDepth 100000 in
theorem c_X11_forgetPlans (l : Launch) (E : EV) (ad : Nat → Nat) (k : Nat) (σ : AS) (f : Int) (g : Int)  : MC l E yX11_forgetPlans cX11_forgetPlans 1 (none) ({ frames := 0, cells := 0, slots := 0, locals := 0 }) [.ref (ad 0)] [((ad 0), ob 10 [.ref (ad 1), .ref (ad 6), .ref (ad 9), .ref (ad 14), .ref (ad 19), .ref (ad 23), .ref (ad 27), .ref (ad 31), .int (iI (σ 0 0)), .int (iI (k : Int)), .int (iI f), .int (iI g)])] (fun v_ w_ => v_ = none ∧ w_ = [((ad 0), ob 10 [.ref (ad 1), .ref (ad 6), .ref (ad 9), .ref (ad 14), .ref (ad 19), .ref (ad 23), .ref (ad 27), .ref (ad 31), .int (iI (σ 0 0)), .int (iI (k : Int)), .int (iI 0), .int (iI 0)])]) := by
  refine MC.of (by decide +kernel) (Nat.le_of_ble_eq_true rfl) ?_
  intro p_ e_ s_ m_ args_ below_ meth_ c_ A_ C hr hnm
  have C : Cx p_ s_ m_ args_ meth_ c_ E A_ 1 cX11_forgetPlans RX11 := C
  show Wx _ _ _ _ _ _ _ _ _ _ _ _ _ _ _ _ 0 [(0, .ref (ad 0))] [] [((ad 0), ob 10 [.ref (ad 1), .ref (ad 6), .ref (ad 9), .ref (ad 14), .ref (ad 19), .ref (ad 23), .ref (ad 27), .ref (ad 31), .int (iI (σ 0 0)), .int (iI (k : Int)), .int (iI f), .int (iI g)])]
  refine x_aload_n (pc' := 1) C 0 dX11_forgetPlans_0 rfl rfl ?_
  refine x_iconst (pc' := 2) C dX11_forgetPlans_1 rfl ?_
  refine x_put (pc' := 5) (ws' := [((ad 0), ob 10 [.ref (ad 1), .ref (ad 6), .ref (ad 9), .ref (ad 14), .ref (ad 19), .ref (ad 23), .ref (ad 27), .ref (ad 31), .int (iI (σ 0 0)), .int (iI (k : Int)), .int (iI 0), .int (iI g)])]) C dX11_forgetPlans_2 rfl pf_X11_86_10 0 rfl rfl rfl (Nat.le_of_ble_eq_true rfl) rfl ?_
  refine x_aload_n (pc' := 6) C 0 dX11_forgetPlans_5 rfl rfl ?_
  refine x_iconst (pc' := 7) C dX11_forgetPlans_6 rfl ?_
  refine x_put (pc' := 10) (ws' := [((ad 0), ob 10 [.ref (ad 1), .ref (ad 6), .ref (ad 9), .ref (ad 14), .ref (ad 19), .ref (ad 23), .ref (ad 27), .ref (ad 31), .int (iI (σ 0 0)), .int (iI (k : Int)), .int (iI 0), .int (iI 0)])]) C dX11_forgetPlans_7 rfl pf_X11_90_10 0 rfl rfl rfl (Nat.le_of_ble_eq_true rfl) rfl ?_
  exact x_vret C hr dX11_forgetPlans_10 ⟨rfl, rfl⟩

set_option maxHeartbeats 4000000 in
set_option maxRecDepth 100000 in
theorem c_X11_top (l : Launch) (E : EV) (ad : Nat → Nat) (k : Nat) (σ : AS) (f : Int) (g : Int) (t : Int) (r_t : -2147483648 ≤ t ∧ t < 2147483648) (h0 : 1 ≤ σ 0 0 ∧ σ 0 0 ≤ 100) : MC l E yX11_top cX11_top 3 (some .int) ({ frames := 0, cells := 0, slots := 0, locals := 0 }) [.ref (ad 0), .int (iI t)] [((ad 0), ob 10 [.ref (ad 1), .ref (ad 6), .ref (ad 9), .ref (ad 14), .ref (ad 19), .ref (ad 23), .ref (ad 27), .ref (ad 31), .int (iI (σ 0 0)), .int (iI (k : Int)), .int (iI f), .int (iI g)])] (fun v_ w_ => ∃ (r : Int) (σ2 : AS) (g2 : Int), v_ = some (.int (iI r)) ∧ w_ = [((ad 0), ob 10 [.ref (ad 1), .ref (ad 6), .ref (ad 9), .ref (ad 14), .ref (ad 19), .ref (ad 23), .ref (ad 27), .ref (ad 31), .int (iI (σ2 0 0)), .int (iI (k : Int)), .int (iI f), .int (iI g2)])] ∧ ((r, σ2) = sp_top σ t) ∧ ((r = -2 ∧ g2 = g) ∨ (r ≠ -2 ∧ g2 = 0))) := by
  refine MC.of (by decide +kernel) (Nat.le_of_ble_eq_true rfl) ?_
  intro p_ e_ s_ m_ args_ below_ meth_ c_ A_ C hr hnm
  have C : Cx p_ s_ m_ args_ meth_ c_ E A_ 3 cX11_top RX11 := C
  show Wx _ _ _ _ _ _ _ _ _ _ _ _ _ _ _ _ 0 [(0, .ref (ad 0)), (1, .int (iI t))] [] [((ad 0), ob 10 [.ref (ad 1), .ref (ad 6), .ref (ad 9), .ref (ad 14), .ref (ad 19), .ref (ad 23), .ref (ad 27), .ref (ad 31), .int (iI (σ 0 0)), .int (iI (k : Int)), .int (iI f), .int (iI g)])]
  refine x_iload_n (pc' := 1) C 1 dX11_top_0 rfl rfl ?_
  refine x_iconst (pc' := 2) C dX11_top_1 rfl ?_
  refine x_icmp_lt (pc' := 5) (tgt := 11) C dX11_top_2 rfl (by decide) (by omega) (by omega) (fun c2 => ?_) (fun c2 => ?_)
  ·
    refine x_bipush (pc' := 13) C dX11_top_11 rfl rfl ?_
    exact x_iret C hr dX11_top_13 ⟨(-2), σ, g, rfl, rfl, (show ((-2), σ) = sp_top σ t from by unfold sp_top; first | rw [if_neg (by omega)] | rw [if_pos (by omega), if_pos (by omega)] | rw [if_pos (by omega), if_neg (by omega)] | rw [if_pos (by omega)]), (show ((-2) = -2 ∧ g = g) ∨ ((-2) ≠ -2 ∧ g = 0) from by omega)⟩
  ·
    refine x_iload_n (pc' := 6) C 1 dX11_top_5 rfl rfl ?_
    refine x_bipush (pc' := 8) C dX11_top_6 rfl rfl ?_
    refine x_icmp_le (pc' := 11) (tgt := 14) C dX11_top_8 rfl (by decide) (by omega) (by omega) (fun c8 => ?_) (fun c8 => ?_)
    ·
      refine x_aload_n (pc' := 15) C 0 dX11_top_14 rfl rfl ?_
      refine x_get (pc' := 18) C dX11_top_15 rfl ff_X11_79_10 0 rfl rfl ?_
      refine x_istore_n (pc' := 19) (lv' := [(2, .int (iI (σ 0 0))), (0, .ref (ad 0)), (1, .int (iI t))]) C dX11_top_18 rfl (by decide) rfl ?_
      refine x_aload_n (pc' := 20) C 1 dX11_top_19 rfl rfl ?_
      refine x_iload_n (pc' := 21) C 2 dX11_top_20 rfl rfl ?_
      refine x_put (pc' := 24) (ws' := [((ad 0), ob 10 [.ref (ad 1), .ref (ad 6), .ref (ad 9), .ref (ad 14), .ref (ad 19), .ref (ad 23), .ref (ad 27), .ref (ad 31), .int (iI t), .int (iI (k : Int)), .int (iI f), .int (iI g)])]) C dX11_top_21 rfl pf_X11_79_10 0 rfl rfl rfl (Nat.le_of_ble_eq_true rfl) rfl ?_
      refine x_aload_n (pc' := 25) C 1 dX11_top_24 rfl rfl ?_
      refine x_iconst (pc' := 26) C dX11_top_25 rfl ?_
      refine x_put (pc' := 29) (ws' := [((ad 0), ob 10 [.ref (ad 1), .ref (ad 6), .ref (ad 9), .ref (ad 14), .ref (ad 19), .ref (ad 23), .ref (ad 27), .ref (ad 31), .int (iI t), .int (iI (k : Int)), .int (iI f), .int (iI 0)])]) C dX11_top_26 rfl pf_X11_90_10 0 rfl rfl rfl (Nat.le_of_ble_eq_true rfl) rfl ?_
      refine x_iload_n (pc' := 30) C 0 dX11_top_29 rfl rfl ?_
      refine x_ws (ws' := [((ad 0), ob 10 [.ref (ad 1), .ref (ad 6), .ref (ad 9), .ref (ad 14), .ref (ad 19), .ref (ad 23), .ref (ad 27), .ref (ad 31), .int (iI ((ap σ 0 0 t) 0 0)), .int (iI (k : Int)), .int (iI f), .int (iI 0)])]) (rfl) ?_
      exact x_iret C hr dX11_top_30 ⟨(σ 0 0), (ap σ 0 0 t), 0, rfl, rfl, (show ((σ 0 0), (ap σ 0 0 t)) = sp_top σ t from by unfold sp_top; first | rw [if_neg (by omega)] | rw [if_pos (by omega), if_pos (by omega)] | rw [if_pos (by omega), if_neg (by omega)] | rw [if_pos (by omega)]), (show ((σ 0 0) = -2 ∧ 0 = g) ∨ ((σ 0 0) ≠ -2 ∧ 0 = 0) from by omega)⟩
    ·
      refine x_bipush (pc' := 13) C dX11_top_11 rfl rfl ?_
      exact x_iret C hr dX11_top_13 ⟨(-2), σ, g, rfl, rfl, (show ((-2), σ) = sp_top σ t from by unfold sp_top; first | rw [if_neg (by omega)] | rw [if_pos (by omega), if_pos (by omega)] | rw [if_pos (by omega), if_neg (by omega)] | rw [if_pos (by omega)]), (show ((-2) = -2 ∧ g = g) ∨ ((-2) ≠ -2 ∧ g = 0) from by omega)⟩

set_option maxHeartbeats 4000000 in
set_option maxRecDepth 100000 in
theorem c_X11_kind (l : Launch) (E : EV) (ad : Nat → Nat) (k : Nat) (σ : AS) (f : Int) (g : Int) (t : Int) (r_t : -2147483648 ≤ t ∧ t < 2147483648) : MC l E yX11_kind cX11_kind 3 (some .int) ({ frames := 1, cells := 0, slots := 0, locals := 20 }) [.ref (ad 0), .int (iI t)] [((ad 0), ob 10 [.ref (ad 1), .ref (ad 6), .ref (ad 9), .ref (ad 14), .ref (ad 19), .ref (ad 23), .ref (ad 27), .ref (ad 31), .int (iI (σ 0 0)), .int (iI (k : Int)), .int (iI f), .int (iI g)]), ((ad 19), ka E 5 (kF ad))] (fun v_ w_ => ∃ (r : Int) (k2 : Nat) (f2 : Int) (g2 : Int), v_ = some (.int (iI r)) ∧ w_ = [((ad 0), ob 10 [.ref (ad 1), .ref (ad 6), .ref (ad 9), .ref (ad 14), .ref (ad 19), .ref (ad 23), .ref (ad 27), .ref (ad 31), .int (iI (σ 0 0)), .int (iI (k2 : Int)), .int (iI f2), .int (iI g2)]), ((ad 19), ka E 5 (kF ad))] ∧ ((r, k2) = sp_kind k t) ∧ ((r = -2 ∧ f2 = f ∧ g2 = g) ∨ (r ≠ -2 ∧ f2 = 0 ∧ g2 = 0))) := by
  refine MC.of (by decide +kernel) (Nat.le_of_ble_eq_true rfl) ?_
  intro p_ e_ s_ m_ args_ below_ meth_ c_ A_ C hr hnm
  have C : Cx p_ s_ m_ args_ meth_ c_ E A_ 3 cX11_kind RX11 := C
  show Wx _ _ _ _ _ _ _ _ _ _ _ _ _ _ _ _ 0 [(0, .ref (ad 0)), (1, .int (iI t))] [] [((ad 0), ob 10 [.ref (ad 1), .ref (ad 6), .ref (ad 9), .ref (ad 14), .ref (ad 19), .ref (ad 23), .ref (ad 27), .ref (ad 31), .int (iI (σ 0 0)), .int (iI (k : Int)), .int (iI f), .int (iI g)]), ((ad 19), ka E 5 (kF ad))]
  refine x_iload_n (pc' := 1) C 1 dX11_kind_0 rfl rfl ?_
  refine x_if_lt (pc' := 4) (tgt := 13) C dX11_kind_1 rfl (by decide) (by omega) (fun c1 => ?_) (fun c1 => ?_)
  ·
    refine x_bipush (pc' := 15) C dX11_kind_13 rfl rfl ?_
    exact x_iret C hr dX11_kind_15 ⟨(-2), k, f, g, rfl, rfl, (show ((-2), k) = sp_kind k t from by unfold sp_kind; first | rw [if_neg (by omega)] | rw [if_pos (by omega), if_pos (by omega)] | rw [if_pos (by omega), if_neg (by omega)] | rw [if_pos (by omega)]), (show ((-2) = -2 ∧ f = f ∧ g = g) ∨ ((-2) ≠ -2 ∧ f = 0 ∧ g = 0) from by omega)⟩
  ·
    refine x_iload_n (pc' := 5) C 1 dX11_kind_4 rfl rfl ?_
    refine x_aload_n (pc' := 6) C 0 dX11_kind_5 rfl rfl ?_
    refine x_get (pc' := 9) C dX11_kind_6 rfl ff_X11_54_10 0 rfl rfl ?_
    refine x_alen (pc' := 10) C dX11_kind_9 rfl 1 2 rfl rfl ?_
    refine x_top (b := .int (iI 5)) rfl ?_
    refine x_icmp_lt (pc' := 13) (tgt := 16) C dX11_kind_10 rfl (by decide) (by omega) (by omega) (fun c10 => ?_) (fun c10 => ?_)
    ·
      refine x_aload_n (pc' := 17) C 0 dX11_kind_16 rfl rfl ?_
      refine x_get (pc' := 20) C dX11_kind_17 rfl ff_X11_83_10 0 rfl rfl ?_
      refine x_istore_n (pc' := 21) (lv' := [(2, .int (iI (k : Int))), (0, .ref (ad 0)), (1, .int (iI t))]) C dX11_kind_20 rfl (by decide) rfl ?_
      refine x_aload_n (pc' := 22) C 1 dX11_kind_21 rfl rfl ?_
      refine x_iload_n (pc' := 23) C 2 dX11_kind_22 rfl rfl ?_
      refine x_put (pc' := 26) (ws' := [((ad 0), ob 10 [.ref (ad 1), .ref (ad 6), .ref (ad 9), .ref (ad 14), .ref (ad 19), .ref (ad 23), .ref (ad 27), .ref (ad 31), .int (iI (σ 0 0)), .int (iI t), .int (iI f), .int (iI g)]), ((ad 19), ka E 5 (kF ad))]) C dX11_kind_23 rfl pf_X11_83_10 0 rfl rfl rfl (Nat.le_of_ble_eq_true rfl) rfl ?_
      refine x_aload_n (pc' := 27) C 1 dX11_kind_26 rfl rfl ?_
      refine x_ws (ws' := [((ad 0), ob 10 [.ref (ad 1), .ref (ad 6), .ref (ad 9), .ref (ad 14), .ref (ad 19), .ref (ad 23), .ref (ad 27), .ref (ad 31), .int (iI (σ 0 0)), .int (iI (t.toNat : Int)), .int (iI f), .int (iI g)]), ((ad 19), ka E 5 (kF ad))]) (by rw [show ((t.toNat : Nat) : Int) = t by omega]) ?_
      refine x_callV (pc' := 30) (As := []) (rest := []) (q0 := 0) C rfl rfl cv_X11_93_X11 dX11_kind_27 rfl (c_X11_forgetPlans l E ad t.toNat σ f g ) mm_X11_forgetPlans (hstk := rfl) (hlen := rfl) (hcat := Nat.le_of_ble_eq_true rfl) (isC := [0]) (isR := [1]) (wr := [((ad 19), ka E 5 (kF ad))]) (hC := rfl) (hR := rfl) (hnC := rfl) (hn := rfl) (hdis := by decide) (hR1 := ⟨Nat.le_of_ble_eq_true rfl, Nat.le_of_ble_eq_true rfl⟩) (hcs := ⟨Nat.le_of_ble_eq_true rfl, Nat.le_of_ble_eq_true rfl⟩) (fun v_ w_ hp_ => ?_)
      obtain ⟨rfl, rfl⟩ := hp_
      show Wx _ _ _ _ _ _ _ _ _ _ _ _ _ _ _ _ 30 [(2, .int (iI (k : Int))), (0, .ref (ad 0)), (1, .int (iI t))] [] [((ad 19), ka E 5 (kF ad)), ((ad 0), ob 10 [.ref (ad 1), .ref (ad 6), .ref (ad 9), .ref (ad 14), .ref (ad 19), .ref (ad 23), .ref (ad 27), .ref (ad 31), .int (iI (σ 0 0)), .int (iI (t.toNat : Int)), .int (iI 0), .int (iI 0)])]
      refine x_sub (ws' := [((ad 0), ob 10 [.ref (ad 1), .ref (ad 6), .ref (ad 9), .ref (ad 14), .ref (ad 19), .ref (ad 23), .ref (ad 27), .ref (ad 31), .int (iI (σ 0 0)), .int (iI (t.toNat : Int)), .int (iI 0), .int (iI 0)]), ((ad 19), ka E 5 (kF ad))]) [1, 0] rfl rfl ?_
      refine x_iload_n (pc' := 31) C 0 dX11_kind_30 rfl rfl ?_
      exact x_iret C hr dX11_kind_31 ⟨(k : Int), t.toNat, 0, 0, rfl, rfl, (show ((k : Int), t.toNat) = sp_kind k t from by unfold sp_kind; first | rw [if_neg (by omega)] | rw [if_pos (by omega), if_pos (by omega)] | rw [if_pos (by omega), if_neg (by omega)] | rw [if_pos (by omega)]), (show ((k : Int) = -2 ∧ 0 = f ∧ 0 = g) ∨ ((k : Int) ≠ -2 ∧ 0 = 0 ∧ 0 = 0) from by omega)⟩
    ·
      refine x_bipush (pc' := 15) C dX11_kind_13 rfl rfl ?_
      exact x_iret C hr dX11_kind_15 ⟨(-2), k, f, g, rfl, rfl, (show ((-2), k) = sp_kind k t from by unfold sp_kind; first | rw [if_neg (by omega)] | rw [if_pos (by omega), if_pos (by omega)] | rw [if_pos (by omega), if_neg (by omega)] | rw [if_pos (by omega)]), (show ((-2) = -2 ∧ f = f ∧ g = g) ∨ ((-2) ≠ -2 ∧ f = 0 ∧ g = 0) from by omega)⟩

set_option maxHeartbeats 4000000 in
set_option maxRecDepth 100000 in
theorem c_X11_link (l : Launch) (E : EV) (ad : Nat → Nat) (k : Nat) (nl : Nat) (σ : AS) (f : Int) (g : Int) (u : Int) (v : Int) (x : Int) (y : Int) (r_u : -2147483648 ≤ u ∧ u < 2147483648) (r_v : -2147483648 ≤ v ∧ v < 2147483648) (r_x : -2147483648 ≤ x ∧ x < 2147483648) (r_y : -2147483648 ≤ y ∧ y < 2147483648) (hnl : nl ≤ 14) : MC l E yX11_link cX11_link 5 (some .int) ({ frames := 3, cells := 0, slots := 0, locals := 69 }) [.ref (ad 0), .int (iI u), .int (iI v), .int (iI x), .int (iI y)] [((ad 0), ob 10 [.ref (ad 1), .ref (ad 6), .ref (ad 9), .ref (ad 14), .ref (ad 19), .ref (ad 23), .ref (ad 27), .ref (ad 31), .int (iI (σ 0 0)), .int (iI (k : Int)), .int (iI f), .int (iI g)]), ((ad 1), ob 2 [.ref (ad 2), .ref (ad 3), .int (iI (nl : Int)), .ref (ad 4), .ref (ad 5)]), ((ad 2), ia E 14 (σ 3)), ((ad 3), ia E 14 (σ 4)), ((ad 4), ia E 14 (σ 1)), ((ad 5), ia E 14 (σ 2))] (fun v_ w_ => ∃ (r : Int) (nl2 : Nat) (σ2 : AS) (f2 : Int) (g2 : Int), v_ = some (.int (iI r)) ∧ w_ = [((ad 0), ob 10 [.ref (ad 1), .ref (ad 6), .ref (ad 9), .ref (ad 14), .ref (ad 19), .ref (ad 23), .ref (ad 27), .ref (ad 31), .int (iI (σ2 0 0)), .int (iI (k : Int)), .int (iI f2), .int (iI g2)]), ((ad 1), ob 2 [.ref (ad 2), .ref (ad 3), .int (iI (nl2 : Int)), .ref (ad 4), .ref (ad 5)]), ((ad 2), ia E 14 (σ2 3)), ((ad 3), ia E 14 (σ2 4)), ((ad 4), ia E 14 (σ2 1)), ((ad 5), ia E 14 (σ2 2))] ∧ ((r, nl2, σ2) = sp_link nl σ u v x y) ∧ ((r < 0 ∧ f2 = f ∧ g2 = g) ∨ (0 ≤ r ∧ f2 = 0 ∧ g2 = 0))) := by
  refine MC.of (by decide +kernel) (Nat.le_of_ble_eq_true rfl) ?_
  intro p_ e_ s_ m_ args_ below_ meth_ c_ A_ C hr hnm
  have C : Cx p_ s_ m_ args_ meth_ c_ E A_ 5 cX11_link RX11 := C
  show Wx _ _ _ _ _ _ _ _ _ _ _ _ _ _ _ _ 0 [(0, .ref (ad 0)), (1, .int (iI u)), (2, .int (iI v)), (3, .int (iI x)), (4, .int (iI y))] [] [((ad 0), ob 10 [.ref (ad 1), .ref (ad 6), .ref (ad 9), .ref (ad 14), .ref (ad 19), .ref (ad 23), .ref (ad 27), .ref (ad 31), .int (iI (σ 0 0)), .int (iI (k : Int)), .int (iI f), .int (iI g)]), ((ad 1), ob 2 [.ref (ad 2), .ref (ad 3), .int (iI (nl : Int)), .ref (ad 4), .ref (ad 5)]), ((ad 2), ia E 14 (σ 3)), ((ad 3), ia E 14 (σ 4)), ((ad 4), ia E 14 (σ 1)), ((ad 5), ia E 14 (σ 2))]
  refine x_iload_n (pc' := 1) C 1 dX11_link_0 rfl rfl ?_
  refine x_bipush (pc' := 3) C dX11_link_1 rfl rfl ?_
  refine x_callS (pc' := 6) (As := [.int (iI u), .int (iI 6)]) (rest := []) C cs_X11_96 dX11_link_3 rfl (c_X11_isBelow l E u 6 (show -2147483648 ≤ u ∧ u < 2147483648 from by omega) (show -2147483648 ≤ 6 ∧ 6 < 2147483648 from by omega)) mm_X11_isBelow (hstk := rfl) (hlen := rfl) (hcat := Nat.le_of_ble_eq_true rfl) (isC := []) (isR := [0, 1, 2, 3, 4, 5]) (wr := [((ad 0), ob 10 [.ref (ad 1), .ref (ad 6), .ref (ad 9), .ref (ad 14), .ref (ad 19), .ref (ad 23), .ref (ad 27), .ref (ad 31), .int (iI (σ 0 0)), .int (iI (k : Int)), .int (iI f), .int (iI g)]), ((ad 1), ob 2 [.ref (ad 2), .ref (ad 3), .int (iI (nl : Int)), .ref (ad 4), .ref (ad 5)]), ((ad 2), ia E 14 (σ 3)), ((ad 3), ia E 14 (σ 4)), ((ad 4), ia E 14 (σ 1)), ((ad 5), ia E 14 (σ 2))]) (hC := rfl) (hR := rfl) (hnC := rfl) (hn := rfl) (hdis := by decide) (hR1 := ⟨Nat.le_of_ble_eq_true rfl, Nat.le_of_ble_eq_true rfl⟩) (hcs := ⟨Nat.le_of_ble_eq_true rfl, Nat.le_of_ble_eq_true rfl⟩) (fun v_ w_ hp_ => ?_)
  obtain ⟨rfl, rfl⟩ := hp_
  show Wx _ _ _ _ _ _ _ _ _ _ _ _ _ _ _ _ 6 [(0, .ref (ad 0)), (1, .int (iI u)), (2, .int (iI v)), (3, .int (iI x)), (4, .int (iI y))] [.int (iI (bI (0 ≤ u ∧ u < 6)))] [((ad 0), ob 10 [.ref (ad 1), .ref (ad 6), .ref (ad 9), .ref (ad 14), .ref (ad 19), .ref (ad 23), .ref (ad 27), .ref (ad 31), .int (iI (σ 0 0)), .int (iI (k : Int)), .int (iI f), .int (iI g)]), ((ad 1), ob 2 [.ref (ad 2), .ref (ad 3), .int (iI (nl : Int)), .ref (ad 4), .ref (ad 5)]), ((ad 2), ia E 14 (σ 3)), ((ad 3), ia E 14 (σ 4)), ((ad 4), ia E 14 (σ 1)), ((ad 5), ia E 14 (σ 2))]
  refine x_if_eq (pc' := 9) (tgt := 32) C dX11_link_6 rfl (by decide) (bI_rng) (fun c6 => ?_) (fun c6 => ?_)
  ·
    replace c6 := bI_z c6
    refine x_bipush (pc' := 34) C dX11_link_32 rfl rfl ?_
    exact x_iret C hr dX11_link_34 ⟨(-2), nl, σ, f, g, rfl, rfl, (show ((-2), nl, σ) = sp_link nl σ u v x y from by unfold sp_link; first | rw [if_neg (by omega)] | rw [if_pos (by omega), if_pos (by omega)] | rw [if_pos (by omega), if_neg (by omega)] | rw [if_pos (by omega)]), (show ((-2) < 0 ∧ f = f ∧ g = g) ∨ (0 ≤ (-2) ∧ f = 0 ∧ g = 0) from by omega)⟩
  ·
    replace c6 := bI_nz c6
    refine x_iload_n (pc' := 10) C 2 dX11_link_9 rfl rfl ?_
    refine x_bipush (pc' := 12) C dX11_link_10 rfl rfl ?_
    refine x_callS (pc' := 15) (As := [.int (iI v), .int (iI 6)]) (rest := []) C cs_X11_96 dX11_link_12 rfl (c_X11_isBelow l E v 6 (show -2147483648 ≤ v ∧ v < 2147483648 from by omega) (show -2147483648 ≤ 6 ∧ 6 < 2147483648 from by omega)) mm_X11_isBelow (hstk := rfl) (hlen := rfl) (hcat := Nat.le_of_ble_eq_true rfl) (isC := []) (isR := [0, 1, 2, 3, 4, 5]) (wr := [((ad 0), ob 10 [.ref (ad 1), .ref (ad 6), .ref (ad 9), .ref (ad 14), .ref (ad 19), .ref (ad 23), .ref (ad 27), .ref (ad 31), .int (iI (σ 0 0)), .int (iI (k : Int)), .int (iI f), .int (iI g)]), ((ad 1), ob 2 [.ref (ad 2), .ref (ad 3), .int (iI (nl : Int)), .ref (ad 4), .ref (ad 5)]), ((ad 2), ia E 14 (σ 3)), ((ad 3), ia E 14 (σ 4)), ((ad 4), ia E 14 (σ 1)), ((ad 5), ia E 14 (σ 2))]) (hC := rfl) (hR := rfl) (hnC := rfl) (hn := rfl) (hdis := by decide) (hR1 := ⟨Nat.le_of_ble_eq_true rfl, Nat.le_of_ble_eq_true rfl⟩) (hcs := ⟨Nat.le_of_ble_eq_true rfl, Nat.le_of_ble_eq_true rfl⟩) (fun v_ w_ hp_ => ?_)
    obtain ⟨rfl, rfl⟩ := hp_
    show Wx _ _ _ _ _ _ _ _ _ _ _ _ _ _ _ _ 15 [(0, .ref (ad 0)), (1, .int (iI u)), (2, .int (iI v)), (3, .int (iI x)), (4, .int (iI y))] [.int (iI (bI (0 ≤ v ∧ v < 6)))] [((ad 0), ob 10 [.ref (ad 1), .ref (ad 6), .ref (ad 9), .ref (ad 14), .ref (ad 19), .ref (ad 23), .ref (ad 27), .ref (ad 31), .int (iI (σ 0 0)), .int (iI (k : Int)), .int (iI f), .int (iI g)]), ((ad 1), ob 2 [.ref (ad 2), .ref (ad 3), .int (iI (nl : Int)), .ref (ad 4), .ref (ad 5)]), ((ad 2), ia E 14 (σ 3)), ((ad 3), ia E 14 (σ 4)), ((ad 4), ia E 14 (σ 1)), ((ad 5), ia E 14 (σ 2))]
    refine x_if_eq (pc' := 18) (tgt := 32) C dX11_link_15 rfl (by decide) (bI_rng) (fun c15 => ?_) (fun c15 => ?_)
    ·
      replace c15 := bI_z c15
      refine x_bipush (pc' := 34) C dX11_link_32 rfl rfl ?_
      exact x_iret C hr dX11_link_34 ⟨(-2), nl, σ, f, g, rfl, rfl, (show ((-2), nl, σ) = sp_link nl σ u v x y from by unfold sp_link; first | rw [if_neg (by omega)] | rw [if_pos (by omega), if_pos (by omega)] | rw [if_pos (by omega), if_neg (by omega)] | rw [if_pos (by omega)]), (show ((-2) < 0 ∧ f = f ∧ g = g) ∨ (0 ≤ (-2) ∧ f = 0 ∧ g = 0) from by omega)⟩
    ·
      replace c15 := bI_nz c15
      refine x_iload_n (pc' := 19) C 1 dX11_link_18 rfl rfl ?_
      refine x_iload_n (pc' := 20) C 2 dX11_link_19 rfl rfl ?_
      refine x_icmp_eq (pc' := 23) (tgt := 32) C dX11_link_20 rfl (by decide) (by omega) (by omega) (fun c20 => ?_) (fun c20 => ?_)
      ·
        refine x_bipush (pc' := 34) C dX11_link_32 rfl rfl ?_
        exact x_iret C hr dX11_link_34 ⟨(-2), nl, σ, f, g, rfl, rfl, (show ((-2), nl, σ) = sp_link nl σ u v x y from by unfold sp_link; first | rw [if_neg (by omega)] | rw [if_pos (by omega), if_pos (by omega)] | rw [if_pos (by omega), if_neg (by omega)] | rw [if_pos (by omega)]), (show ((-2) < 0 ∧ f = f ∧ g = g) ∨ (0 ≤ (-2) ∧ f = 0 ∧ g = 0) from by omega)⟩
      ·
        refine x_iload_n (pc' := 24) C 3 dX11_link_23 rfl rfl ?_
        refine x_iload (pc' := 26) C 4 dX11_link_24 rfl rfl ?_
        refine x_callS (pc' := 29) (As := [.int (iI x), .int (iI y)]) (rest := []) C cs_X11_100 dX11_link_26 rfl (c_X11_isLine l E x y (show -2147483648 ≤ x ∧ x < 2147483648 from by omega) (show -2147483648 ≤ y ∧ y < 2147483648 from by omega)) mm_X11_isLine (hstk := rfl) (hlen := rfl) (hcat := Nat.le_of_ble_eq_true rfl) (isC := []) (isR := [0, 1, 2, 3, 4, 5]) (wr := [((ad 0), ob 10 [.ref (ad 1), .ref (ad 6), .ref (ad 9), .ref (ad 14), .ref (ad 19), .ref (ad 23), .ref (ad 27), .ref (ad 31), .int (iI (σ 0 0)), .int (iI (k : Int)), .int (iI f), .int (iI g)]), ((ad 1), ob 2 [.ref (ad 2), .ref (ad 3), .int (iI (nl : Int)), .ref (ad 4), .ref (ad 5)]), ((ad 2), ia E 14 (σ 3)), ((ad 3), ia E 14 (σ 4)), ((ad 4), ia E 14 (σ 1)), ((ad 5), ia E 14 (σ 2))]) (hC := rfl) (hR := rfl) (hnC := rfl) (hn := rfl) (hdis := by decide) (hR1 := ⟨Nat.le_of_ble_eq_true rfl, Nat.le_of_ble_eq_true rfl⟩) (hcs := ⟨Nat.le_of_ble_eq_true rfl, Nat.le_of_ble_eq_true rfl⟩) (fun v_ w_ hp_ => ?_)
        obtain ⟨rfl, rfl⟩ := hp_
        show Wx _ _ _ _ _ _ _ _ _ _ _ _ _ _ _ _ 29 [(0, .ref (ad 0)), (1, .int (iI u)), (2, .int (iI v)), (3, .int (iI x)), (4, .int (iI y))] [.int (iI (bI (((-100 ≤ x ∧ x ≤ 100) ∧ -100 ≤ y) ∧ y ≤ 100)))] [((ad 0), ob 10 [.ref (ad 1), .ref (ad 6), .ref (ad 9), .ref (ad 14), .ref (ad 19), .ref (ad 23), .ref (ad 27), .ref (ad 31), .int (iI (σ 0 0)), .int (iI (k : Int)), .int (iI f), .int (iI g)]), ((ad 1), ob 2 [.ref (ad 2), .ref (ad 3), .int (iI (nl : Int)), .ref (ad 4), .ref (ad 5)]), ((ad 2), ia E 14 (σ 3)), ((ad 3), ia E 14 (σ 4)), ((ad 4), ia E 14 (σ 1)), ((ad 5), ia E 14 (σ 2))]
        refine x_if_ne (pc' := 32) (tgt := 35) C dX11_link_29 rfl (by decide) (bI_rng) (fun c29 => ?_) (fun c29 => ?_)
        ·
          replace c29 := bI_nz c29
          refine x_aload_n (pc' := 36) C 0 dX11_link_35 rfl rfl ?_
          refine x_get (pc' := 39) C dX11_link_36 rfl ff_X11_12_10 0 rfl rfl ?_
          refine x_callU (pc' := 42) (As := []) (rest := []) (q0 := 0) C rfl rfl cu_X11_103_X3 dX11_link_39 rfl (c_X6_isFull_L l E (ad 1) (ad 2) (ad 3) (ad 4) (ad 5) nl 14 (σ 3) (show nl < 1000000 from by omega) (show 14 < 1000000 from by omega)) mm_X6_isFull (hstk := rfl) (hlen := rfl) (hcat := Nat.le_of_ble_eq_true rfl) (isC := [1, 2]) (isR := [0, 3, 4, 5]) (wr := [((ad 0), ob 10 [.ref (ad 1), .ref (ad 6), .ref (ad 9), .ref (ad 14), .ref (ad 19), .ref (ad 23), .ref (ad 27), .ref (ad 31), .int (iI (σ 0 0)), .int (iI (k : Int)), .int (iI f), .int (iI g)]), ((ad 3), ia E 14 (σ 4)), ((ad 4), ia E 14 (σ 1)), ((ad 5), ia E 14 (σ 2))]) (hC := rfl) (hR := rfl) (hnC := rfl) (hn := rfl) (hdis := by decide) (hR1 := ⟨Nat.le_of_ble_eq_true rfl, Nat.le_of_ble_eq_true rfl⟩) (hcs := ⟨Nat.le_of_ble_eq_true rfl, Nat.le_of_ble_eq_true rfl⟩) (fun v_ w_ hp_ => ?_)
          obtain ⟨rfl, rfl⟩ := hp_
          show Wx _ _ _ _ _ _ _ _ _ _ _ _ _ _ _ _ 42 [(0, .ref (ad 0)), (1, .int (iI u)), (2, .int (iI v)), (3, .int (iI x)), (4, .int (iI y))] [.int (iI (bI (14 ≤ nl)))] [((ad 0), ob 10 [.ref (ad 1), .ref (ad 6), .ref (ad 9), .ref (ad 14), .ref (ad 19), .ref (ad 23), .ref (ad 27), .ref (ad 31), .int (iI (σ 0 0)), .int (iI (k : Int)), .int (iI f), .int (iI g)]), ((ad 3), ia E 14 (σ 4)), ((ad 4), ia E 14 (σ 1)), ((ad 5), ia E 14 (σ 2)), ((ad 1), ob 2 [.ref (ad 2), .ref (ad 3), .int (iI (nl : Int)), .ref (ad 4), .ref (ad 5)]), ((ad 2), ia E 14 (σ 3))]
          refine x_sub (ws' := [((ad 0), ob 10 [.ref (ad 1), .ref (ad 6), .ref (ad 9), .ref (ad 14), .ref (ad 19), .ref (ad 23), .ref (ad 27), .ref (ad 31), .int (iI (σ 0 0)), .int (iI (k : Int)), .int (iI f), .int (iI g)]), ((ad 1), ob 2 [.ref (ad 2), .ref (ad 3), .int (iI (nl : Int)), .ref (ad 4), .ref (ad 5)]), ((ad 2), ia E 14 (σ 3)), ((ad 3), ia E 14 (σ 4)), ((ad 4), ia E 14 (σ 1)), ((ad 5), ia E 14 (σ 2))]) [0, 4, 5, 1, 2, 3] rfl rfl ?_
          refine x_if_eq (pc' := 45) (tgt := 48) C dX11_link_42 rfl (by decide) (bI_rng) (fun c42 => ?_) (fun c42 => ?_)
          ·
            replace c42 := bI_z c42
            refine x_aload_n (pc' := 49) C 0 dX11_link_48 rfl rfl ?_
            refine x_callV (pc' := 52) (As := []) (rest := []) (q0 := 0) C rfl rfl cv_X11_93_X11 dX11_link_49 rfl (c_X11_forgetPlans l E ad k σ f g ) mm_X11_forgetPlans (hstk := rfl) (hlen := rfl) (hcat := Nat.le_of_ble_eq_true rfl) (isC := [0]) (isR := [1, 2, 3, 4, 5]) (wr := [((ad 1), ob 2 [.ref (ad 2), .ref (ad 3), .int (iI (nl : Int)), .ref (ad 4), .ref (ad 5)]), ((ad 2), ia E 14 (σ 3)), ((ad 3), ia E 14 (σ 4)), ((ad 4), ia E 14 (σ 1)), ((ad 5), ia E 14 (σ 2))]) (hC := rfl) (hR := rfl) (hnC := rfl) (hn := rfl) (hdis := by decide) (hR1 := ⟨Nat.le_of_ble_eq_true rfl, Nat.le_of_ble_eq_true rfl⟩) (hcs := ⟨Nat.le_of_ble_eq_true rfl, Nat.le_of_ble_eq_true rfl⟩) (fun v_ w_ hp_ => ?_)
            obtain ⟨rfl, rfl⟩ := hp_
            show Wx _ _ _ _ _ _ _ _ _ _ _ _ _ _ _ _ 52 [(0, .ref (ad 0)), (1, .int (iI u)), (2, .int (iI v)), (3, .int (iI x)), (4, .int (iI y))] [] [((ad 1), ob 2 [.ref (ad 2), .ref (ad 3), .int (iI (nl : Int)), .ref (ad 4), .ref (ad 5)]), ((ad 2), ia E 14 (σ 3)), ((ad 3), ia E 14 (σ 4)), ((ad 4), ia E 14 (σ 1)), ((ad 5), ia E 14 (σ 2)), ((ad 0), ob 10 [.ref (ad 1), .ref (ad 6), .ref (ad 9), .ref (ad 14), .ref (ad 19), .ref (ad 23), .ref (ad 27), .ref (ad 31), .int (iI (σ 0 0)), .int (iI (k : Int)), .int (iI 0), .int (iI 0)])]
            refine x_sub (ws' := [((ad 0), ob 10 [.ref (ad 1), .ref (ad 6), .ref (ad 9), .ref (ad 14), .ref (ad 19), .ref (ad 23), .ref (ad 27), .ref (ad 31), .int (iI (σ 0 0)), .int (iI (k : Int)), .int (iI 0), .int (iI 0)]), ((ad 1), ob 2 [.ref (ad 2), .ref (ad 3), .int (iI (nl : Int)), .ref (ad 4), .ref (ad 5)]), ((ad 2), ia E 14 (σ 3)), ((ad 3), ia E 14 (σ 4)), ((ad 4), ia E 14 (σ 1)), ((ad 5), ia E 14 (σ 2))]) [5, 0, 1, 2, 3, 4] rfl rfl ?_
            refine x_aload_n (pc' := 53) C 0 dX11_link_52 rfl rfl ?_
            refine x_get (pc' := 56) C dX11_link_53 rfl ff_X11_12_10 0 rfl rfl ?_
            refine x_iload_n (pc' := 57) C 1 dX11_link_56 rfl rfl ?_
            refine x_iload_n (pc' := 58) C 2 dX11_link_57 rfl rfl ?_
            refine x_iload_n (pc' := 59) C 3 dX11_link_58 rfl rfl ?_
            refine x_iload (pc' := 61) C 4 dX11_link_59 rfl rfl ?_
            refine x_callV (pc' := 64) (As := [.int (iI u), .int (iI v), .int (iI x), .int (iI y)]) (rest := []) (q0 := 0) C rfl rfl cv_X11_107_X3 dX11_link_61 rfl (c_X3_appendLink l E (ad 1) (ad 2) (ad 3) (ad 4) (ad 5) nl u v x y (σ 3) (σ 4) (σ 1) (σ 2) (show nl < 14 from by omega)) mm_X3_appendLink (hstk := rfl) (hlen := rfl) (hcat := Nat.le_of_ble_eq_true rfl) (isC := [1, 2, 3, 4, 5]) (isR := [0]) (wr := [((ad 0), ob 10 [.ref (ad 1), .ref (ad 6), .ref (ad 9), .ref (ad 14), .ref (ad 19), .ref (ad 23), .ref (ad 27), .ref (ad 31), .int (iI (σ 0 0)), .int (iI (k : Int)), .int (iI 0), .int (iI 0)])]) (hC := rfl) (hR := rfl) (hnC := rfl) (hn := rfl) (hdis := by decide) (hR1 := ⟨Nat.le_of_ble_eq_true rfl, Nat.le_of_ble_eq_true rfl⟩) (hcs := ⟨Nat.le_of_ble_eq_true rfl, Nat.le_of_ble_eq_true rfl⟩) (fun v_ w_ hp_ => ?_)
            obtain ⟨rfl, rfl⟩ := hp_
            show Wx _ _ _ _ _ _ _ _ _ _ _ _ _ _ _ _ 64 [(0, .ref (ad 0)), (1, .int (iI u)), (2, .int (iI v)), (3, .int (iI x)), (4, .int (iI y))] [.int (iI (nl : Int))] [((ad 0), ob 10 [.ref (ad 1), .ref (ad 6), .ref (ad 9), .ref (ad 14), .ref (ad 19), .ref (ad 23), .ref (ad 27), .ref (ad 31), .int (iI (σ 0 0)), .int (iI (k : Int)), .int (iI 0), .int (iI 0)]), ((ad 1), ob 2 [.ref (ad 2), .ref (ad 3), .int (iI ((nl + 1 : Nat) : Int)), .ref (ad 4), .ref (ad 5)]), ((ad 2), ia E 14 (va_up (σ 3) nl x)), ((ad 3), ia E 14 (va_up (σ 4) nl y)), ((ad 4), ia E 14 (va_up (σ 1) nl u)), ((ad 5), ia E 14 (va_up (σ 2) nl v))]
            refine x_ws (ws' := [((ad 0), ob 10 [.ref (ad 1), .ref (ad 6), .ref (ad 9), .ref (ad 14), .ref (ad 19), .ref (ad 23), .ref (ad 27), .ref (ad 31), .int (iI ((ap (ap (ap (ap σ 1 nl u) 2 nl v) 3 nl x) 4 nl y) 0 0)), .int (iI (k : Int)), .int (iI 0), .int (iI 0)]), ((ad 1), ob 2 [.ref (ad 2), .ref (ad 3), .int (iI ((nl + 1 : Nat) : Int)), .ref (ad 4), .ref (ad 5)]), ((ad 2), ia E 14 ((ap (ap (ap (ap σ 1 nl u) 2 nl v) 3 nl x) 4 nl y) 3)), ((ad 3), ia E 14 ((ap (ap (ap (ap σ 1 nl u) 2 nl v) 3 nl x) 4 nl y) 4)), ((ad 4), ia E 14 ((ap (ap (ap (ap σ 1 nl u) 2 nl v) 3 nl x) 4 nl y) 1)), ((ad 5), ia E 14 ((ap (ap (ap (ap σ 1 nl u) 2 nl v) 3 nl x) 4 nl y) 2))]) (rfl) ?_
            exact x_iret C hr dX11_link_64 ⟨(nl : Int), (nl + 1), (ap (ap (ap (ap σ 1 nl u) 2 nl v) 3 nl x) 4 nl y), 0, 0, rfl, rfl, (show ((nl : Int), (nl + 1), (ap (ap (ap (ap σ 1 nl u) 2 nl v) 3 nl x) 4 nl y)) = sp_link nl σ u v x y from by unfold sp_link; first | rw [if_neg (by omega)] | rw [if_pos (by omega), if_pos (by omega)] | rw [if_pos (by omega), if_neg (by omega)] | rw [if_pos (by omega)]), (show ((nl : Int) < 0 ∧ 0 = f ∧ 0 = g) ∨ (0 ≤ (nl : Int) ∧ 0 = 0 ∧ 0 = 0) from by omega)⟩
          ·
            replace c42 := bI_nz c42
            refine x_bipush (pc' := 47) C dX11_link_45 rfl rfl ?_
            exact x_iret C hr dX11_link_47 ⟨(-4), nl, σ, f, g, rfl, rfl, (show ((-4), nl, σ) = sp_link nl σ u v x y from by unfold sp_link; first | rw [if_neg (by omega)] | rw [if_pos (by omega), if_pos (by omega)] | rw [if_pos (by omega), if_neg (by omega)] | rw [if_pos (by omega)]), (show ((-4) < 0 ∧ f = f ∧ g = g) ∨ (0 ≤ (-4) ∧ f = 0 ∧ g = 0) from by omega)⟩
        ·
          replace c29 := bI_z c29
          refine x_bipush (pc' := 34) C dX11_link_32 rfl rfl ?_
          exact x_iret C hr dX11_link_34 ⟨(-2), nl, σ, f, g, rfl, rfl, (show ((-2), nl, σ) = sp_link nl σ u v x y from by unfold sp_link; first | rw [if_neg (by omega)] | rw [if_pos (by omega), if_pos (by omega)] | rw [if_pos (by omega), if_neg (by omega)] | rw [if_pos (by omega)]), (show ((-2) < 0 ∧ f = f ∧ g = g) ∨ (0 ≤ (-2) ∧ f = 0 ∧ g = 0) from by omega)⟩

set_option maxHeartbeats 4000000 in
set_option maxRecDepth 100000 in
theorem c_X11_pair (l : Launch) (E : EV) (ad : Nat → Nat) (k : Nat) (σ : AS) (f : Int) (g : Int) (u : Int) (v : Int) (x : Int) (y : Int) (r_u : -2147483648 ≤ u ∧ u < 2147483648) (r_v : -2147483648 ≤ v ∧ v < 2147483648) (r_x : -2147483648 ≤ x ∧ x < 2147483648) (r_y : -2147483648 ≤ y ∧ y < 2147483648) : MC l E yX11_pair cX11_pair 5 (some .int) ({ frames := 1, cells := 0, slots := 0, locals := 23 }) [.ref (ad 0), .int (iI u), .int (iI v), .int (iI x), .int (iI y)] [((ad 0), ob 10 [.ref (ad 1), .ref (ad 6), .ref (ad 9), .ref (ad 14), .ref (ad 19), .ref (ad 23), .ref (ad 27), .ref (ad 31), .int (iI (σ 0 0)), .int (iI (k : Int)), .int (iI f), .int (iI g)]), ((ad 6), ob 5 [.ref (ad 7), .ref (ad 8), .int (iI 16)]), ((ad 7), ia E 16 (σ 5)), ((ad 8), ia E 16 (σ 6))] (fun v_ w_ => ∃ (r : Int) (σ2 : AS) (f2 : Int) (g2 : Int), v_ = some (.int (iI r)) ∧ w_ = [((ad 0), ob 10 [.ref (ad 1), .ref (ad 6), .ref (ad 9), .ref (ad 14), .ref (ad 19), .ref (ad 23), .ref (ad 27), .ref (ad 31), .int (iI (σ2 0 0)), .int (iI (k : Int)), .int (iI f2), .int (iI g2)]), ((ad 6), ob 5 [.ref (ad 7), .ref (ad 8), .int (iI 16)]), ((ad 7), ia E 16 (σ2 5)), ((ad 8), ia E 16 (σ2 6))] ∧ ((r, σ2) = sp_pair σ u v x y) ∧ ((r < 0 ∧ f2 = f ∧ g2 = g) ∨ (0 ≤ r ∧ f2 = 0 ∧ g2 = 0))) := by
  refine MC.of (by decide +kernel) (Nat.le_of_ble_eq_true rfl) ?_
  intro p_ e_ s_ m_ args_ below_ meth_ c_ A_ C hr hnm
  have C : Cx p_ s_ m_ args_ meth_ c_ E A_ 5 cX11_pair RX11 := C
  show Wx _ _ _ _ _ _ _ _ _ _ _ _ _ _ _ _ 0 [(0, .ref (ad 0)), (1, .int (iI u)), (2, .int (iI v)), (3, .int (iI x)), (4, .int (iI y))] [] [((ad 0), ob 10 [.ref (ad 1), .ref (ad 6), .ref (ad 9), .ref (ad 14), .ref (ad 19), .ref (ad 23), .ref (ad 27), .ref (ad 31), .int (iI (σ 0 0)), .int (iI (k : Int)), .int (iI f), .int (iI g)]), ((ad 6), ob 5 [.ref (ad 7), .ref (ad 8), .int (iI 16)]), ((ad 7), ia E 16 (σ 5)), ((ad 8), ia E 16 (σ 6))]
  refine x_iload_n (pc' := 1) C 1 dX11_pair_0 rfl rfl ?_
  refine x_iconst (pc' := 2) C dX11_pair_1 rfl ?_
  refine x_callS (pc' := 5) (As := [.int (iI u), .int (iI 4)]) (rest := []) C cs_X11_96 dX11_pair_2 rfl (c_X11_isBelow l E u 4 (show -2147483648 ≤ u ∧ u < 2147483648 from by omega) (show -2147483648 ≤ 4 ∧ 4 < 2147483648 from by omega)) mm_X11_isBelow (hstk := rfl) (hlen := rfl) (hcat := Nat.le_of_ble_eq_true rfl) (isC := []) (isR := [0, 1, 2, 3]) (wr := [((ad 0), ob 10 [.ref (ad 1), .ref (ad 6), .ref (ad 9), .ref (ad 14), .ref (ad 19), .ref (ad 23), .ref (ad 27), .ref (ad 31), .int (iI (σ 0 0)), .int (iI (k : Int)), .int (iI f), .int (iI g)]), ((ad 6), ob 5 [.ref (ad 7), .ref (ad 8), .int (iI 16)]), ((ad 7), ia E 16 (σ 5)), ((ad 8), ia E 16 (σ 6))]) (hC := rfl) (hR := rfl) (hnC := rfl) (hn := rfl) (hdis := by decide) (hR1 := ⟨Nat.le_of_ble_eq_true rfl, Nat.le_of_ble_eq_true rfl⟩) (hcs := ⟨Nat.le_of_ble_eq_true rfl, Nat.le_of_ble_eq_true rfl⟩) (fun v_ w_ hp_ => ?_)
  obtain ⟨rfl, rfl⟩ := hp_
  show Wx _ _ _ _ _ _ _ _ _ _ _ _ _ _ _ _ 5 [(0, .ref (ad 0)), (1, .int (iI u)), (2, .int (iI v)), (3, .int (iI x)), (4, .int (iI y))] [.int (iI (bI (0 ≤ u ∧ u < 4)))] [((ad 0), ob 10 [.ref (ad 1), .ref (ad 6), .ref (ad 9), .ref (ad 14), .ref (ad 19), .ref (ad 23), .ref (ad 27), .ref (ad 31), .int (iI (σ 0 0)), .int (iI (k : Int)), .int (iI f), .int (iI g)]), ((ad 6), ob 5 [.ref (ad 7), .ref (ad 8), .int (iI 16)]), ((ad 7), ia E 16 (σ 5)), ((ad 8), ia E 16 (σ 6))]
  refine x_if_eq (pc' := 8) (tgt := 25) C dX11_pair_5 rfl (by decide) (bI_rng) (fun c5 => ?_) (fun c5 => ?_)
  ·
    replace c5 := bI_z c5
    refine x_bipush (pc' := 27) C dX11_pair_25 rfl rfl ?_
    exact x_iret C hr dX11_pair_27 ⟨(-2), σ, f, g, rfl, rfl, (show ((-2), σ) = sp_pair σ u v x y from by unfold sp_pair; first | rw [if_neg (by omega)] | rw [if_pos (by omega), if_pos (by omega)] | rw [if_pos (by omega), if_neg (by omega)] | rw [if_pos (by omega)]), (show ((-2) < 0 ∧ f = f ∧ g = g) ∨ (0 ≤ (-2) ∧ f = 0 ∧ g = 0) from by omega)⟩
  ·
    replace c5 := bI_nz c5
    refine x_iload_n (pc' := 9) C 2 dX11_pair_8 rfl rfl ?_
    refine x_iconst (pc' := 10) C dX11_pair_9 rfl ?_
    refine x_callS (pc' := 13) (As := [.int (iI v), .int (iI 4)]) (rest := []) C cs_X11_96 dX11_pair_10 rfl (c_X11_isBelow l E v 4 (show -2147483648 ≤ v ∧ v < 2147483648 from by omega) (show -2147483648 ≤ 4 ∧ 4 < 2147483648 from by omega)) mm_X11_isBelow (hstk := rfl) (hlen := rfl) (hcat := Nat.le_of_ble_eq_true rfl) (isC := []) (isR := [0, 1, 2, 3]) (wr := [((ad 0), ob 10 [.ref (ad 1), .ref (ad 6), .ref (ad 9), .ref (ad 14), .ref (ad 19), .ref (ad 23), .ref (ad 27), .ref (ad 31), .int (iI (σ 0 0)), .int (iI (k : Int)), .int (iI f), .int (iI g)]), ((ad 6), ob 5 [.ref (ad 7), .ref (ad 8), .int (iI 16)]), ((ad 7), ia E 16 (σ 5)), ((ad 8), ia E 16 (σ 6))]) (hC := rfl) (hR := rfl) (hnC := rfl) (hn := rfl) (hdis := by decide) (hR1 := ⟨Nat.le_of_ble_eq_true rfl, Nat.le_of_ble_eq_true rfl⟩) (hcs := ⟨Nat.le_of_ble_eq_true rfl, Nat.le_of_ble_eq_true rfl⟩) (fun v_ w_ hp_ => ?_)
    obtain ⟨rfl, rfl⟩ := hp_
    show Wx _ _ _ _ _ _ _ _ _ _ _ _ _ _ _ _ 13 [(0, .ref (ad 0)), (1, .int (iI u)), (2, .int (iI v)), (3, .int (iI x)), (4, .int (iI y))] [.int (iI (bI (0 ≤ v ∧ v < 4)))] [((ad 0), ob 10 [.ref (ad 1), .ref (ad 6), .ref (ad 9), .ref (ad 14), .ref (ad 19), .ref (ad 23), .ref (ad 27), .ref (ad 31), .int (iI (σ 0 0)), .int (iI (k : Int)), .int (iI f), .int (iI g)]), ((ad 6), ob 5 [.ref (ad 7), .ref (ad 8), .int (iI 16)]), ((ad 7), ia E 16 (σ 5)), ((ad 8), ia E 16 (σ 6))]
    refine x_if_eq (pc' := 16) (tgt := 25) C dX11_pair_13 rfl (by decide) (bI_rng) (fun c13 => ?_) (fun c13 => ?_)
    ·
      replace c13 := bI_z c13
      refine x_bipush (pc' := 27) C dX11_pair_25 rfl rfl ?_
      exact x_iret C hr dX11_pair_27 ⟨(-2), σ, f, g, rfl, rfl, (show ((-2), σ) = sp_pair σ u v x y from by unfold sp_pair; first | rw [if_neg (by omega)] | rw [if_pos (by omega), if_pos (by omega)] | rw [if_pos (by omega), if_neg (by omega)] | rw [if_pos (by omega)]), (show ((-2) < 0 ∧ f = f ∧ g = g) ∨ (0 ≤ (-2) ∧ f = 0 ∧ g = 0) from by omega)⟩
    ·
      replace c13 := bI_nz c13
      refine x_iload_n (pc' := 17) C 3 dX11_pair_16 rfl rfl ?_
      refine x_iload (pc' := 19) C 4 dX11_pair_17 rfl rfl ?_
      refine x_callS (pc' := 22) (As := [.int (iI x), .int (iI y)]) (rest := []) C cs_X11_100 dX11_pair_19 rfl (c_X11_isLine l E x y (show -2147483648 ≤ x ∧ x < 2147483648 from by omega) (show -2147483648 ≤ y ∧ y < 2147483648 from by omega)) mm_X11_isLine (hstk := rfl) (hlen := rfl) (hcat := Nat.le_of_ble_eq_true rfl) (isC := []) (isR := [0, 1, 2, 3]) (wr := [((ad 0), ob 10 [.ref (ad 1), .ref (ad 6), .ref (ad 9), .ref (ad 14), .ref (ad 19), .ref (ad 23), .ref (ad 27), .ref (ad 31), .int (iI (σ 0 0)), .int (iI (k : Int)), .int (iI f), .int (iI g)]), ((ad 6), ob 5 [.ref (ad 7), .ref (ad 8), .int (iI 16)]), ((ad 7), ia E 16 (σ 5)), ((ad 8), ia E 16 (σ 6))]) (hC := rfl) (hR := rfl) (hnC := rfl) (hn := rfl) (hdis := by decide) (hR1 := ⟨Nat.le_of_ble_eq_true rfl, Nat.le_of_ble_eq_true rfl⟩) (hcs := ⟨Nat.le_of_ble_eq_true rfl, Nat.le_of_ble_eq_true rfl⟩) (fun v_ w_ hp_ => ?_)
      obtain ⟨rfl, rfl⟩ := hp_
      show Wx _ _ _ _ _ _ _ _ _ _ _ _ _ _ _ _ 22 [(0, .ref (ad 0)), (1, .int (iI u)), (2, .int (iI v)), (3, .int (iI x)), (4, .int (iI y))] [.int (iI (bI (((-100 ≤ x ∧ x ≤ 100) ∧ -100 ≤ y) ∧ y ≤ 100)))] [((ad 0), ob 10 [.ref (ad 1), .ref (ad 6), .ref (ad 9), .ref (ad 14), .ref (ad 19), .ref (ad 23), .ref (ad 27), .ref (ad 31), .int (iI (σ 0 0)), .int (iI (k : Int)), .int (iI f), .int (iI g)]), ((ad 6), ob 5 [.ref (ad 7), .ref (ad 8), .int (iI 16)]), ((ad 7), ia E 16 (σ 5)), ((ad 8), ia E 16 (σ 6))]
      refine x_if_ne (pc' := 25) (tgt := 28) C dX11_pair_22 rfl (by decide) (bI_rng) (fun c22 => ?_) (fun c22 => ?_)
      ·
        replace c22 := bI_nz c22
        refine x_aload_n (pc' := 29) C 0 dX11_pair_28 rfl rfl ?_
        refine x_get (pc' := 32) C dX11_pair_29 rfl ff_X11_21_10 0 rfl rfl ?_
        refine x_iconst (pc' := 33) C dX11_pair_32 rfl ?_
        refine x_iload_n (pc' := 34) C 1 dX11_pair_33 rfl rfl ?_
        refine x_imul (pc' := 35) C dX11_pair_34 rfl ?_
        refine x_iload_n (pc' := 36) C 2 dX11_pair_35 rfl rfl ?_
        refine x_iadd (pc' := 37) C dX11_pair_36 rfl ?_
        refine x_iload_n (pc' := 38) C 3 dX11_pair_37 rfl rfl ?_
        refine x_iload (pc' := 40) C 4 dX11_pair_38 rfl rfl ?_
        refine x_stI (st' := [.int (iI y), .int (iI x), .int (iI (((4 * u + v).toNat : Nat) : Int)), .ref (ad 6)]) 2 rfl (by omega) rfl ?_
        refine x_callV (pc' := 43) (As := [.int (iI (((4 * u + v).toNat : Nat) : Int)), .int (iI x), .int (iI y)]) (rest := []) (q0 := 0) C rfl rfl cv_X11_111_X6 dX11_pair_40 rfl (c_X6_setLine l E (ad 6) (ad 7) (ad 8) 16 ((4 * u + v).toNat) 16 x y (σ 5) (σ 6) (show 16 < 1000000 from by omega) (show ((4 * u + v).toNat) < 16 from by omega)) mm_X6_setLine (hstk := rfl) (hlen := rfl) (hcat := Nat.le_of_ble_eq_true rfl) (isC := [1, 2, 3]) (isR := [0]) (wr := [((ad 0), ob 10 [.ref (ad 1), .ref (ad 6), .ref (ad 9), .ref (ad 14), .ref (ad 19), .ref (ad 23), .ref (ad 27), .ref (ad 31), .int (iI (σ 0 0)), .int (iI (k : Int)), .int (iI f), .int (iI g)])]) (hC := rfl) (hR := rfl) (hnC := rfl) (hn := rfl) (hdis := by decide) (hR1 := ⟨Nat.le_of_ble_eq_true rfl, Nat.le_of_ble_eq_true rfl⟩) (hcs := ⟨Nat.le_of_ble_eq_true rfl, Nat.le_of_ble_eq_true rfl⟩) (fun v_ w_ hp_ => ?_)
        obtain ⟨rfl, rfl⟩ := hp_
        show Wx _ _ _ _ _ _ _ _ _ _ _ _ _ _ _ _ 43 [(0, .ref (ad 0)), (1, .int (iI u)), (2, .int (iI v)), (3, .int (iI x)), (4, .int (iI y))] [] [((ad 0), ob 10 [.ref (ad 1), .ref (ad 6), .ref (ad 9), .ref (ad 14), .ref (ad 19), .ref (ad 23), .ref (ad 27), .ref (ad 31), .int (iI (σ 0 0)), .int (iI (k : Int)), .int (iI f), .int (iI g)]), ((ad 6), ob 5 [.ref (ad 7), .ref (ad 8), .int (iI 16)]), ((ad 7), ia E 16 (va_up (σ 5) ((4 * u + v).toNat) x)), ((ad 8), ia E 16 (va_up (σ 6) ((4 * u + v).toNat) y))]
        refine x_aload_n (pc' := 44) C 0 dX11_pair_43 rfl rfl ?_
        refine x_callV (pc' := 47) (As := []) (rest := []) (q0 := 0) C rfl rfl cv_X11_93_X11 dX11_pair_44 rfl (c_X11_forgetPlans l E ad k σ f g ) mm_X11_forgetPlans (hstk := rfl) (hlen := rfl) (hcat := Nat.le_of_ble_eq_true rfl) (isC := [0]) (isR := [1, 2, 3]) (wr := [((ad 6), ob 5 [.ref (ad 7), .ref (ad 8), .int (iI 16)]), ((ad 7), ia E 16 (va_up (σ 5) ((4 * u + v).toNat) x)), ((ad 8), ia E 16 (va_up (σ 6) ((4 * u + v).toNat) y))]) (hC := rfl) (hR := rfl) (hnC := rfl) (hn := rfl) (hdis := by decide) (hR1 := ⟨Nat.le_of_ble_eq_true rfl, Nat.le_of_ble_eq_true rfl⟩) (hcs := ⟨Nat.le_of_ble_eq_true rfl, Nat.le_of_ble_eq_true rfl⟩) (fun v_ w_ hp_ => ?_)
        obtain ⟨rfl, rfl⟩ := hp_
        show Wx _ _ _ _ _ _ _ _ _ _ _ _ _ _ _ _ 47 [(0, .ref (ad 0)), (1, .int (iI u)), (2, .int (iI v)), (3, .int (iI x)), (4, .int (iI y))] [] [((ad 6), ob 5 [.ref (ad 7), .ref (ad 8), .int (iI 16)]), ((ad 7), ia E 16 (va_up (σ 5) ((4 * u + v).toNat) x)), ((ad 8), ia E 16 (va_up (σ 6) ((4 * u + v).toNat) y)), ((ad 0), ob 10 [.ref (ad 1), .ref (ad 6), .ref (ad 9), .ref (ad 14), .ref (ad 19), .ref (ad 23), .ref (ad 27), .ref (ad 31), .int (iI (σ 0 0)), .int (iI (k : Int)), .int (iI 0), .int (iI 0)])]
        refine x_sub (ws' := [((ad 0), ob 10 [.ref (ad 1), .ref (ad 6), .ref (ad 9), .ref (ad 14), .ref (ad 19), .ref (ad 23), .ref (ad 27), .ref (ad 31), .int (iI (σ 0 0)), .int (iI (k : Int)), .int (iI 0), .int (iI 0)]), ((ad 6), ob 5 [.ref (ad 7), .ref (ad 8), .int (iI 16)]), ((ad 7), ia E 16 (va_up (σ 5) ((4 * u + v).toNat) x)), ((ad 8), ia E 16 (va_up (σ 6) ((4 * u + v).toNat) y))]) [3, 0, 1, 2] rfl rfl ?_
        refine x_iconst (pc' := 48) C dX11_pair_47 rfl ?_
        refine x_ws (ws' := [((ad 0), ob 10 [.ref (ad 1), .ref (ad 6), .ref (ad 9), .ref (ad 14), .ref (ad 19), .ref (ad 23), .ref (ad 27), .ref (ad 31), .int (iI ((ap (ap σ 5 (4 * u + v).toNat x) 6 (4 * u + v).toNat y) 0 0)), .int (iI (k : Int)), .int (iI 0), .int (iI 0)]), ((ad 6), ob 5 [.ref (ad 7), .ref (ad 8), .int (iI 16)]), ((ad 7), ia E 16 ((ap (ap σ 5 (4 * u + v).toNat x) 6 (4 * u + v).toNat y) 5)), ((ad 8), ia E 16 ((ap (ap σ 5 (4 * u + v).toNat x) 6 (4 * u + v).toNat y) 6))]) (rfl) ?_
        exact x_iret C hr dX11_pair_48 ⟨1, (ap (ap σ 5 (4 * u + v).toNat x) 6 (4 * u + v).toNat y), 0, 0, rfl, rfl, (show (1, (ap (ap σ 5 (4 * u + v).toNat x) 6 (4 * u + v).toNat y)) = sp_pair σ u v x y from by unfold sp_pair; first | rw [if_neg (by omega)] | rw [if_pos (by omega), if_pos (by omega)] | rw [if_pos (by omega), if_neg (by omega)] | rw [if_pos (by omega)]), (show (1 < 0 ∧ 0 = f ∧ 0 = g) ∨ (0 ≤ 1 ∧ 0 = 0 ∧ 0 = 0) from by omega)⟩
      ·
        replace c22 := bI_z c22
        refine x_bipush (pc' := 27) C dX11_pair_25 rfl rfl ?_
        exact x_iret C hr dX11_pair_27 ⟨(-2), σ, f, g, rfl, rfl, (show ((-2), σ) = sp_pair σ u v x y from by unfold sp_pair; first | rw [if_neg (by omega)] | rw [if_pos (by omega), if_pos (by omega)] | rw [if_pos (by omega), if_neg (by omega)] | rw [if_pos (by omega)]), (show ((-2) < 0 ∧ f = f ∧ g = g) ∨ (0 ≤ (-2) ∧ f = 0 ∧ g = 0) from by omega)⟩

set_option maxHeartbeats 4000000 in
set_option maxRecDepth 100000 in
theorem c_X11_thing (l : Launch) (E : EV) (ad : Nat → Nat) (k : Nat) (nt : Nat) (σ : AS) (f : Int) (g : Int) (u : Int) (x : Int) (y : Int) (r_u : -2147483648 ≤ u ∧ u < 2147483648) (r_x : -2147483648 ≤ x ∧ x < 2147483648) (r_y : -2147483648 ≤ y ∧ y < 2147483648) (hnt : nt ≤ 8) : MC l E yX11_thing cX11_thing 4 (some .int) ({ frames := 3, cells := 0, slots := 0, locals := 68 }) [.ref (ad 0), .int (iI u), .int (iI x), .int (iI y)] [((ad 0), ob 10 [.ref (ad 1), .ref (ad 6), .ref (ad 9), .ref (ad 14), .ref (ad 19), .ref (ad 23), .ref (ad 27), .ref (ad 31), .int (iI (σ 0 0)), .int (iI (k : Int)), .int (iI f), .int (iI g)]), ((ad 9), ob 3 [.ref (ad 10), .int (iI (-1)), .ref (ad 13), .int (iI (σ 0 4))]), ((ad 10), ob 5 [.ref (ad 11), .ref (ad 12), .int (iI (nt : Int))]), ((ad 11), ia E 8 (σ 8)), ((ad 12), ia E 8 (σ 9)), ((ad 13), ia E 8 (σ 7))] (fun v_ w_ => ∃ (r : Int) (nt2 : Nat) (σ2 : AS) (f2 : Int) (g2 : Int), v_ = some (.int (iI r)) ∧ w_ = [((ad 0), ob 10 [.ref (ad 1), .ref (ad 6), .ref (ad 9), .ref (ad 14), .ref (ad 19), .ref (ad 23), .ref (ad 27), .ref (ad 31), .int (iI (σ2 0 0)), .int (iI (k : Int)), .int (iI f2), .int (iI g2)]), ((ad 9), ob 3 [.ref (ad 10), .int (iI (-1)), .ref (ad 13), .int (iI (σ2 0 4))]), ((ad 10), ob 5 [.ref (ad 11), .ref (ad 12), .int (iI (nt2 : Int))]), ((ad 11), ia E 8 (σ2 8)), ((ad 12), ia E 8 (σ2 9)), ((ad 13), ia E 8 (σ2 7))] ∧ ((r, nt2, σ2) = sp_thing nt σ u x y) ∧ ((r < 0 ∧ f2 = f ∧ g2 = g) ∨ (0 ≤ r ∧ f2 = 0 ∧ g2 = 0))) := by
  refine MC.of (by decide +kernel) (Nat.le_of_ble_eq_true rfl) ?_
  intro p_ e_ s_ m_ args_ below_ meth_ c_ A_ C hr hnm
  have C : Cx p_ s_ m_ args_ meth_ c_ E A_ 4 cX11_thing RX11 := C
  show Wx _ _ _ _ _ _ _ _ _ _ _ _ _ _ _ _ 0 [(0, .ref (ad 0)), (1, .int (iI u)), (2, .int (iI x)), (3, .int (iI y))] [] [((ad 0), ob 10 [.ref (ad 1), .ref (ad 6), .ref (ad 9), .ref (ad 14), .ref (ad 19), .ref (ad 23), .ref (ad 27), .ref (ad 31), .int (iI (σ 0 0)), .int (iI (k : Int)), .int (iI f), .int (iI g)]), ((ad 9), ob 3 [.ref (ad 10), .int (iI (-1)), .ref (ad 13), .int (iI (σ 0 4))]), ((ad 10), ob 5 [.ref (ad 11), .ref (ad 12), .int (iI (nt : Int))]), ((ad 11), ia E 8 (σ 8)), ((ad 12), ia E 8 (σ 9)), ((ad 13), ia E 8 (σ 7))]
  refine x_iload_n (pc' := 1) C 1 dX11_thing_0 rfl rfl ?_
  refine x_iconst (pc' := 2) C dX11_thing_1 rfl ?_
  refine x_icmp_lt (pc' := 5) (tgt := 19) C dX11_thing_2 rfl (by decide) (by omega) (by omega) (fun c2 => ?_) (fun c2 => ?_)
  ·
    refine x_bipush (pc' := 21) C dX11_thing_19 rfl rfl ?_
    exact x_iret C hr dX11_thing_21 ⟨(-2), nt, σ, f, g, rfl, rfl, (show ((-2), nt, σ) = sp_thing nt σ u x y from by unfold sp_thing; first | rw [if_neg (by omega)] | rw [if_pos (by omega), if_pos (by omega)] | rw [if_pos (by omega), if_neg (by omega)] | rw [if_pos (by omega)]), (show ((-2) < 0 ∧ f = f ∧ g = g) ∨ (0 ≤ (-2) ∧ f = 0 ∧ g = 0) from by omega)⟩
  ·
    refine x_iload_n (pc' := 6) C 1 dX11_thing_5 rfl rfl ?_
    refine x_bipush (pc' := 8) C dX11_thing_6 rfl rfl ?_
    refine x_icmp_gt (pc' := 11) (tgt := 19) C dX11_thing_8 rfl (by decide) (by omega) (by omega) (fun c8 => ?_) (fun c8 => ?_)
    ·
      refine x_bipush (pc' := 21) C dX11_thing_19 rfl rfl ?_
      exact x_iret C hr dX11_thing_21 ⟨(-2), nt, σ, f, g, rfl, rfl, (show ((-2), nt, σ) = sp_thing nt σ u x y from by unfold sp_thing; first | rw [if_neg (by omega)] | rw [if_pos (by omega), if_pos (by omega)] | rw [if_pos (by omega), if_neg (by omega)] | rw [if_pos (by omega)]), (show ((-2) < 0 ∧ f = f ∧ g = g) ∨ (0 ≤ (-2) ∧ f = 0 ∧ g = 0) from by omega)⟩
    ·
      refine x_iload_n (pc' := 12) C 2 dX11_thing_11 rfl rfl ?_
      refine x_iload_n (pc' := 13) C 3 dX11_thing_12 rfl rfl ?_
      refine x_callS (pc' := 16) (As := [.int (iI x), .int (iI y)]) (rest := []) C cs_X11_100 dX11_thing_13 rfl (c_X11_isLine l E x y (show -2147483648 ≤ x ∧ x < 2147483648 from by omega) (show -2147483648 ≤ y ∧ y < 2147483648 from by omega)) mm_X11_isLine (hstk := rfl) (hlen := rfl) (hcat := Nat.le_of_ble_eq_true rfl) (isC := []) (isR := [0, 1, 2, 3, 4, 5]) (wr := [((ad 0), ob 10 [.ref (ad 1), .ref (ad 6), .ref (ad 9), .ref (ad 14), .ref (ad 19), .ref (ad 23), .ref (ad 27), .ref (ad 31), .int (iI (σ 0 0)), .int (iI (k : Int)), .int (iI f), .int (iI g)]), ((ad 9), ob 3 [.ref (ad 10), .int (iI (-1)), .ref (ad 13), .int (iI (σ 0 4))]), ((ad 10), ob 5 [.ref (ad 11), .ref (ad 12), .int (iI (nt : Int))]), ((ad 11), ia E 8 (σ 8)), ((ad 12), ia E 8 (σ 9)), ((ad 13), ia E 8 (σ 7))]) (hC := rfl) (hR := rfl) (hnC := rfl) (hn := rfl) (hdis := by decide) (hR1 := ⟨Nat.le_of_ble_eq_true rfl, Nat.le_of_ble_eq_true rfl⟩) (hcs := ⟨Nat.le_of_ble_eq_true rfl, Nat.le_of_ble_eq_true rfl⟩) (fun v_ w_ hp_ => ?_)
      obtain ⟨rfl, rfl⟩ := hp_
      show Wx _ _ _ _ _ _ _ _ _ _ _ _ _ _ _ _ 16 [(0, .ref (ad 0)), (1, .int (iI u)), (2, .int (iI x)), (3, .int (iI y))] [.int (iI (bI (((-100 ≤ x ∧ x ≤ 100) ∧ -100 ≤ y) ∧ y ≤ 100)))] [((ad 0), ob 10 [.ref (ad 1), .ref (ad 6), .ref (ad 9), .ref (ad 14), .ref (ad 19), .ref (ad 23), .ref (ad 27), .ref (ad 31), .int (iI (σ 0 0)), .int (iI (k : Int)), .int (iI f), .int (iI g)]), ((ad 9), ob 3 [.ref (ad 10), .int (iI (-1)), .ref (ad 13), .int (iI (σ 0 4))]), ((ad 10), ob 5 [.ref (ad 11), .ref (ad 12), .int (iI (nt : Int))]), ((ad 11), ia E 8 (σ 8)), ((ad 12), ia E 8 (σ 9)), ((ad 13), ia E 8 (σ 7))]
      refine x_if_ne (pc' := 19) (tgt := 22) C dX11_thing_16 rfl (by decide) (bI_rng) (fun c16 => ?_) (fun c16 => ?_)
      ·
        replace c16 := bI_nz c16
        refine x_aload_n (pc' := 23) C 0 dX11_thing_22 rfl rfl ?_
        refine x_get (pc' := 26) C dX11_thing_23 rfl ff_X11_28_10 0 rfl rfl ?_
        refine x_get (pc' := 29) C dX11_thing_26 rfl ff_X11_115_3 1 rfl rfl ?_
        refine x_callV (pc' := 32) (As := []) (rest := []) (q0 := 0) C rfl rfl cv_X11_118_X6 dX11_thing_29 rfl (c_X6_isFull l E (ad 10) (ad 11) (ad 12) nt 8 (σ 8) (show nt < 1000000 from by omega) (show 8 < 1000000 from by omega)) mm_X6_isFull (hstk := rfl) (hlen := rfl) (hcat := Nat.le_of_ble_eq_true rfl) (isC := [2, 3]) (isR := [0, 1, 4, 5]) (wr := [((ad 0), ob 10 [.ref (ad 1), .ref (ad 6), .ref (ad 9), .ref (ad 14), .ref (ad 19), .ref (ad 23), .ref (ad 27), .ref (ad 31), .int (iI (σ 0 0)), .int (iI (k : Int)), .int (iI f), .int (iI g)]), ((ad 9), ob 3 [.ref (ad 10), .int (iI (-1)), .ref (ad 13), .int (iI (σ 0 4))]), ((ad 12), ia E 8 (σ 9)), ((ad 13), ia E 8 (σ 7))]) (hC := rfl) (hR := rfl) (hnC := rfl) (hn := rfl) (hdis := by decide) (hR1 := ⟨Nat.le_of_ble_eq_true rfl, Nat.le_of_ble_eq_true rfl⟩) (hcs := ⟨Nat.le_of_ble_eq_true rfl, Nat.le_of_ble_eq_true rfl⟩) (fun v_ w_ hp_ => ?_)
        obtain ⟨rfl, rfl⟩ := hp_
        show Wx _ _ _ _ _ _ _ _ _ _ _ _ _ _ _ _ 32 [(0, .ref (ad 0)), (1, .int (iI u)), (2, .int (iI x)), (3, .int (iI y))] [.int (iI (bI (8 ≤ nt)))] [((ad 0), ob 10 [.ref (ad 1), .ref (ad 6), .ref (ad 9), .ref (ad 14), .ref (ad 19), .ref (ad 23), .ref (ad 27), .ref (ad 31), .int (iI (σ 0 0)), .int (iI (k : Int)), .int (iI f), .int (iI g)]), ((ad 9), ob 3 [.ref (ad 10), .int (iI (-1)), .ref (ad 13), .int (iI (σ 0 4))]), ((ad 12), ia E 8 (σ 9)), ((ad 13), ia E 8 (σ 7)), ((ad 10), ob 5 [.ref (ad 11), .ref (ad 12), .int (iI (nt : Int))]), ((ad 11), ia E 8 (σ 8))]
        refine x_sub (ws' := [((ad 0), ob 10 [.ref (ad 1), .ref (ad 6), .ref (ad 9), .ref (ad 14), .ref (ad 19), .ref (ad 23), .ref (ad 27), .ref (ad 31), .int (iI (σ 0 0)), .int (iI (k : Int)), .int (iI f), .int (iI g)]), ((ad 9), ob 3 [.ref (ad 10), .int (iI (-1)), .ref (ad 13), .int (iI (σ 0 4))]), ((ad 10), ob 5 [.ref (ad 11), .ref (ad 12), .int (iI (nt : Int))]), ((ad 11), ia E 8 (σ 8)), ((ad 12), ia E 8 (σ 9)), ((ad 13), ia E 8 (σ 7))]) [0, 1, 4, 5, 2, 3] rfl rfl ?_
        refine x_if_eq (pc' := 35) (tgt := 38) C dX11_thing_32 rfl (by decide) (bI_rng) (fun c32 => ?_) (fun c32 => ?_)
        ·
          replace c32 := bI_z c32
          refine x_aload_n (pc' := 39) C 0 dX11_thing_38 rfl rfl ?_
          refine x_callV (pc' := 42) (As := []) (rest := []) (q0 := 0) C rfl rfl cv_X11_93_X11 dX11_thing_39 rfl (c_X11_forgetPlans l E ad k σ f g ) mm_X11_forgetPlans (hstk := rfl) (hlen := rfl) (hcat := Nat.le_of_ble_eq_true rfl) (isC := [0]) (isR := [1, 2, 3, 4, 5]) (wr := [((ad 9), ob 3 [.ref (ad 10), .int (iI (-1)), .ref (ad 13), .int (iI (σ 0 4))]), ((ad 10), ob 5 [.ref (ad 11), .ref (ad 12), .int (iI (nt : Int))]), ((ad 11), ia E 8 (σ 8)), ((ad 12), ia E 8 (σ 9)), ((ad 13), ia E 8 (σ 7))]) (hC := rfl) (hR := rfl) (hnC := rfl) (hn := rfl) (hdis := by decide) (hR1 := ⟨Nat.le_of_ble_eq_true rfl, Nat.le_of_ble_eq_true rfl⟩) (hcs := ⟨Nat.le_of_ble_eq_true rfl, Nat.le_of_ble_eq_true rfl⟩) (fun v_ w_ hp_ => ?_)
          obtain ⟨rfl, rfl⟩ := hp_
          show Wx _ _ _ _ _ _ _ _ _ _ _ _ _ _ _ _ 42 [(0, .ref (ad 0)), (1, .int (iI u)), (2, .int (iI x)), (3, .int (iI y))] [] [((ad 9), ob 3 [.ref (ad 10), .int (iI (-1)), .ref (ad 13), .int (iI (σ 0 4))]), ((ad 10), ob 5 [.ref (ad 11), .ref (ad 12), .int (iI (nt : Int))]), ((ad 11), ia E 8 (σ 8)), ((ad 12), ia E 8 (σ 9)), ((ad 13), ia E 8 (σ 7)), ((ad 0), ob 10 [.ref (ad 1), .ref (ad 6), .ref (ad 9), .ref (ad 14), .ref (ad 19), .ref (ad 23), .ref (ad 27), .ref (ad 31), .int (iI (σ 0 0)), .int (iI (k : Int)), .int (iI 0), .int (iI 0)])]
          refine x_sub (ws' := [((ad 0), ob 10 [.ref (ad 1), .ref (ad 6), .ref (ad 9), .ref (ad 14), .ref (ad 19), .ref (ad 23), .ref (ad 27), .ref (ad 31), .int (iI (σ 0 0)), .int (iI (k : Int)), .int (iI 0), .int (iI 0)]), ((ad 9), ob 3 [.ref (ad 10), .int (iI (-1)), .ref (ad 13), .int (iI (σ 0 4))]), ((ad 10), ob 5 [.ref (ad 11), .ref (ad 12), .int (iI (nt : Int))]), ((ad 11), ia E 8 (σ 8)), ((ad 12), ia E 8 (σ 9)), ((ad 13), ia E 8 (σ 7))]) [5, 0, 1, 2, 3, 4] rfl rfl ?_
          refine x_aload_n (pc' := 43) C 0 dX11_thing_42 rfl rfl ?_
          refine x_get (pc' := 46) C dX11_thing_43 rfl ff_X11_28_10 0 rfl rfl ?_
          refine x_iload_n (pc' := 47) C 1 dX11_thing_46 rfl rfl ?_
          refine x_iload_n (pc' := 48) C 2 dX11_thing_47 rfl rfl ?_
          refine x_iload_n (pc' := 49) C 3 dX11_thing_48 rfl rfl ?_
          refine x_callV (pc' := 52) (As := [.int (iI u), .int (iI x), .int (iI y)]) (rest := []) (q0 := 0) C rfl rfl cv_X11_119_X4 dX11_thing_49 rfl (c_X4_appendThing l E (ad 9) (ad 10) (ad 11) (ad 12) (ad 13) nt (-1) (σ 0 4) u x y (σ 8) (σ 9) (σ 7) (show nt < 8 from by omega)) mm_X4_appendThing (hstk := rfl) (hlen := rfl) (hcat := Nat.le_of_ble_eq_true rfl) (isC := [1, 2, 3, 4, 5]) (isR := [0]) (wr := [((ad 0), ob 10 [.ref (ad 1), .ref (ad 6), .ref (ad 9), .ref (ad 14), .ref (ad 19), .ref (ad 23), .ref (ad 27), .ref (ad 31), .int (iI (σ 0 0)), .int (iI (k : Int)), .int (iI 0), .int (iI 0)])]) (hC := rfl) (hR := rfl) (hnC := rfl) (hn := rfl) (hdis := by decide) (hR1 := ⟨Nat.le_of_ble_eq_true rfl, Nat.le_of_ble_eq_true rfl⟩) (hcs := ⟨Nat.le_of_ble_eq_true rfl, Nat.le_of_ble_eq_true rfl⟩) (fun v_ w_ hp_ => ?_)
          obtain ⟨rfl, rfl⟩ := hp_
          show Wx _ _ _ _ _ _ _ _ _ _ _ _ _ _ _ _ 52 [(0, .ref (ad 0)), (1, .int (iI u)), (2, .int (iI x)), (3, .int (iI y))] [.int (iI (nt : Int))] [((ad 0), ob 10 [.ref (ad 1), .ref (ad 6), .ref (ad 9), .ref (ad 14), .ref (ad 19), .ref (ad 23), .ref (ad 27), .ref (ad 31), .int (iI (σ 0 0)), .int (iI (k : Int)), .int (iI 0), .int (iI 0)]), ((ad 9), ob 3 [.ref (ad 10), .int (iI (-1)), .ref (ad 13), .int (iI (σ 0 4))]), ((ad 10), ob 5 [.ref (ad 11), .ref (ad 12), .int (iI ((nt + 1 : Nat) : Int))]), ((ad 11), ia E 8 (va_up (σ 8) nt x)), ((ad 12), ia E 8 (va_up (σ 9) nt y)), ((ad 13), ia E 8 (va_up (σ 7) nt u))]
          refine x_ws (ws' := [((ad 0), ob 10 [.ref (ad 1), .ref (ad 6), .ref (ad 9), .ref (ad 14), .ref (ad 19), .ref (ad 23), .ref (ad 27), .ref (ad 31), .int (iI ((ap (ap (ap σ 7 nt u) 8 nt x) 9 nt y) 0 0)), .int (iI (k : Int)), .int (iI 0), .int (iI 0)]), ((ad 9), ob 3 [.ref (ad 10), .int (iI (-1)), .ref (ad 13), .int (iI ((ap (ap (ap σ 7 nt u) 8 nt x) 9 nt y) 0 4))]), ((ad 10), ob 5 [.ref (ad 11), .ref (ad 12), .int (iI ((nt + 1 : Nat) : Int))]), ((ad 11), ia E 8 ((ap (ap (ap σ 7 nt u) 8 nt x) 9 nt y) 8)), ((ad 12), ia E 8 ((ap (ap (ap σ 7 nt u) 8 nt x) 9 nt y) 9)), ((ad 13), ia E 8 ((ap (ap (ap σ 7 nt u) 8 nt x) 9 nt y) 7))]) (rfl) ?_
          exact x_iret C hr dX11_thing_52 ⟨(nt : Int), (nt + 1), (ap (ap (ap σ 7 nt u) 8 nt x) 9 nt y), 0, 0, rfl, rfl, (show ((nt : Int), (nt + 1), (ap (ap (ap σ 7 nt u) 8 nt x) 9 nt y)) = sp_thing nt σ u x y from by unfold sp_thing; first | rw [if_neg (by omega)] | rw [if_pos (by omega), if_pos (by omega)] | rw [if_pos (by omega), if_neg (by omega)] | rw [if_pos (by omega)]), (show ((nt : Int) < 0 ∧ 0 = f ∧ 0 = g) ∨ (0 ≤ (nt : Int) ∧ 0 = 0 ∧ 0 = 0) from by omega)⟩
        ·
          replace c32 := bI_nz c32
          refine x_bipush (pc' := 37) C dX11_thing_35 rfl rfl ?_
          exact x_iret C hr dX11_thing_37 ⟨(-4), nt, σ, f, g, rfl, rfl, (show ((-4), nt, σ) = sp_thing nt σ u x y from by unfold sp_thing; first | rw [if_neg (by omega)] | rw [if_pos (by omega), if_pos (by omega)] | rw [if_pos (by omega), if_neg (by omega)] | rw [if_pos (by omega)]), (show ((-4) < 0 ∧ f = f ∧ g = g) ∨ (0 ≤ (-4) ∧ f = 0 ∧ g = 0) from by omega)⟩
      ·
        replace c16 := bI_z c16
        refine x_bipush (pc' := 21) C dX11_thing_19 rfl rfl ?_
        exact x_iret C hr dX11_thing_21 ⟨(-2), nt, σ, f, g, rfl, rfl, (show ((-2), nt, σ) = sp_thing nt σ u x y from by unfold sp_thing; first | rw [if_neg (by omega)] | rw [if_pos (by omega), if_pos (by omega)] | rw [if_pos (by omega), if_neg (by omega)] | rw [if_pos (by omega)]), (show ((-2) < 0 ∧ f = f ∧ g = g) ∨ (0 ≤ (-2) ∧ f = 0 ∧ g = 0) from by omega)⟩

set_option maxHeartbeats 4000000 in
set_option maxRecDepth 100000 in
theorem c_X11_room (l : Launch) (E : EV) (ad : Nat → Nat) (k : Nat) (σ : AS) (f : Int) (g : Int) (t : Int) (r_t : -2147483648 ≤ t ∧ t < 2147483648) (h0 : 0 ≤ σ 0 4 ∧ σ 0 4 ≤ 200) : MC l E yX11_room cX11_room 3 (some .int) ({ frames := 1, cells := 0, slots := 0, locals := 20 }) [.ref (ad 0), .int (iI t)] [((ad 0), ob 10 [.ref (ad 1), .ref (ad 6), .ref (ad 9), .ref (ad 14), .ref (ad 19), .ref (ad 23), .ref (ad 27), .ref (ad 31), .int (iI (σ 0 0)), .int (iI (k : Int)), .int (iI f), .int (iI g)]), ((ad 9), ob 3 [.ref (ad 10), .int (iI (-1)), .ref (ad 13), .int (iI (σ 0 4))])] (fun v_ w_ => ∃ (r : Int) (σ2 : AS) (f2 : Int) (g2 : Int), v_ = some (.int (iI r)) ∧ w_ = [((ad 0), ob 10 [.ref (ad 1), .ref (ad 6), .ref (ad 9), .ref (ad 14), .ref (ad 19), .ref (ad 23), .ref (ad 27), .ref (ad 31), .int (iI (σ2 0 0)), .int (iI (k : Int)), .int (iI f2), .int (iI g2)]), ((ad 9), ob 3 [.ref (ad 10), .int (iI (-1)), .ref (ad 13), .int (iI (σ2 0 4))])] ∧ ((r, σ2) = sp_room σ t) ∧ ((r = -2 ∧ f2 = f ∧ g2 = g) ∨ (r ≠ -2 ∧ f2 = 0 ∧ g2 = 0))) := by
  refine MC.of (by decide +kernel) (Nat.le_of_ble_eq_true rfl) ?_
  intro p_ e_ s_ m_ args_ below_ meth_ c_ A_ C hr hnm
  have C : Cx p_ s_ m_ args_ meth_ c_ E A_ 3 cX11_room RX11 := C
  show Wx _ _ _ _ _ _ _ _ _ _ _ _ _ _ _ _ 0 [(0, .ref (ad 0)), (1, .int (iI t))] [] [((ad 0), ob 10 [.ref (ad 1), .ref (ad 6), .ref (ad 9), .ref (ad 14), .ref (ad 19), .ref (ad 23), .ref (ad 27), .ref (ad 31), .int (iI (σ 0 0)), .int (iI (k : Int)), .int (iI f), .int (iI g)]), ((ad 9), ob 3 [.ref (ad 10), .int (iI (-1)), .ref (ad 13), .int (iI (σ 0 4))])]
  refine x_iload_n (pc' := 1) C 1 dX11_room_0 rfl rfl ?_
  refine x_if_lt (pc' := 4) (tgt := 11) C dX11_room_1 rfl (by decide) (by omega) (fun c1 => ?_) (fun c1 => ?_)
  ·
    refine x_bipush (pc' := 13) C dX11_room_11 rfl rfl ?_
    exact x_iret C hr dX11_room_13 ⟨(-2), σ, f, g, rfl, rfl, (show ((-2), σ) = sp_room σ t from by unfold sp_room; first | rw [if_neg (by omega)] | rw [if_pos (by omega), if_pos (by omega)] | rw [if_pos (by omega), if_neg (by omega)] | rw [if_pos (by omega)]), (show ((-2) = -2 ∧ f = f ∧ g = g) ∨ ((-2) ≠ -2 ∧ f = 0 ∧ g = 0) from by omega)⟩
  ·
    refine x_iload_n (pc' := 5) C 1 dX11_room_4 rfl rfl ?_
    refine x_sipush (pc' := 8) C dX11_room_5 rfl rfl ?_
    refine x_icmp_le (pc' := 11) (tgt := 14) C dX11_room_8 rfl (by decide) (by omega) (by omega) (fun c8 => ?_) (fun c8 => ?_)
    ·
      refine x_aload_n (pc' := 15) C 0 dX11_room_14 rfl rfl ?_
      refine x_get (pc' := 18) C dX11_room_15 rfl ff_X11_28_10 0 rfl rfl ?_
      refine x_get (pc' := 21) C dX11_room_18 rfl ff_X11_123_3 1 rfl rfl ?_
      refine x_istore_n (pc' := 22) (lv' := [(2, .int (iI (σ 0 4))), (0, .ref (ad 0)), (1, .int (iI t))]) C dX11_room_21 rfl (by decide) rfl ?_
      refine x_aload_n (pc' := 23) C 1 dX11_room_22 rfl rfl ?_
      refine x_get (pc' := 26) C dX11_room_23 rfl ff_X11_28_10 0 rfl rfl ?_
      refine x_iload_n (pc' := 27) C 2 dX11_room_26 rfl rfl ?_
      refine x_put (pc' := 30) (ws' := [((ad 0), ob 10 [.ref (ad 1), .ref (ad 6), .ref (ad 9), .ref (ad 14), .ref (ad 19), .ref (ad 23), .ref (ad 27), .ref (ad 31), .int (iI (σ 0 0)), .int (iI (k : Int)), .int (iI f), .int (iI g)]), ((ad 9), ob 3 [.ref (ad 10), .int (iI (-1)), .ref (ad 13), .int (iI t)])]) C dX11_room_27 rfl pf_X11_123_3 1 rfl rfl rfl (Nat.le_of_ble_eq_true rfl) rfl ?_
      refine x_aload_n (pc' := 31) C 1 dX11_room_30 rfl rfl ?_
      refine x_callV (pc' := 34) (As := []) (rest := []) (q0 := 0) C rfl rfl cv_X11_93_X11 dX11_room_31 rfl (c_X11_forgetPlans l E ad k σ f g ) mm_X11_forgetPlans (hstk := rfl) (hlen := rfl) (hcat := Nat.le_of_ble_eq_true rfl) (isC := [0]) (isR := [1]) (wr := [((ad 9), ob 3 [.ref (ad 10), .int (iI (-1)), .ref (ad 13), .int (iI t)])]) (hC := rfl) (hR := rfl) (hnC := rfl) (hn := rfl) (hdis := by decide) (hR1 := ⟨Nat.le_of_ble_eq_true rfl, Nat.le_of_ble_eq_true rfl⟩) (hcs := ⟨Nat.le_of_ble_eq_true rfl, Nat.le_of_ble_eq_true rfl⟩) (fun v_ w_ hp_ => ?_)
      obtain ⟨rfl, rfl⟩ := hp_
      show Wx _ _ _ _ _ _ _ _ _ _ _ _ _ _ _ _ 34 [(2, .int (iI (σ 0 4))), (0, .ref (ad 0)), (1, .int (iI t))] [] [((ad 9), ob 3 [.ref (ad 10), .int (iI (-1)), .ref (ad 13), .int (iI t)]), ((ad 0), ob 10 [.ref (ad 1), .ref (ad 6), .ref (ad 9), .ref (ad 14), .ref (ad 19), .ref (ad 23), .ref (ad 27), .ref (ad 31), .int (iI (σ 0 0)), .int (iI (k : Int)), .int (iI 0), .int (iI 0)])]
      refine x_sub (ws' := [((ad 0), ob 10 [.ref (ad 1), .ref (ad 6), .ref (ad 9), .ref (ad 14), .ref (ad 19), .ref (ad 23), .ref (ad 27), .ref (ad 31), .int (iI (σ 0 0)), .int (iI (k : Int)), .int (iI 0), .int (iI 0)]), ((ad 9), ob 3 [.ref (ad 10), .int (iI (-1)), .ref (ad 13), .int (iI t)])]) [1, 0] rfl rfl ?_
      refine x_iload_n (pc' := 35) C 0 dX11_room_34 rfl rfl ?_
      refine x_ws (ws' := [((ad 0), ob 10 [.ref (ad 1), .ref (ad 6), .ref (ad 9), .ref (ad 14), .ref (ad 19), .ref (ad 23), .ref (ad 27), .ref (ad 31), .int (iI ((ap σ 0 4 t) 0 0)), .int (iI (k : Int)), .int (iI 0), .int (iI 0)]), ((ad 9), ob 3 [.ref (ad 10), .int (iI (-1)), .ref (ad 13), .int (iI ((ap σ 0 4 t) 0 4))])]) (rfl) ?_
      exact x_iret C hr dX11_room_35 ⟨(σ 0 4), (ap σ 0 4 t), 0, 0, rfl, rfl, (show ((σ 0 4), (ap σ 0 4 t)) = sp_room σ t from by unfold sp_room; first | rw [if_neg (by omega)] | rw [if_pos (by omega), if_pos (by omega)] | rw [if_pos (by omega), if_neg (by omega)] | rw [if_pos (by omega)]), (show ((σ 0 4) = -2 ∧ 0 = f ∧ 0 = g) ∨ ((σ 0 4) ≠ -2 ∧ 0 = 0 ∧ 0 = 0) from by omega)⟩
    ·
      refine x_bipush (pc' := 13) C dX11_room_11 rfl rfl ?_
      exact x_iret C hr dX11_room_13 ⟨(-2), σ, f, g, rfl, rfl, (show ((-2), σ) = sp_room σ t from by unfold sp_room; first | rw [if_neg (by omega)] | rw [if_pos (by omega), if_pos (by omega)] | rw [if_pos (by omega), if_neg (by omega)] | rw [if_pos (by omega)]), (show ((-2) = -2 ∧ f = f ∧ g = g) ∨ ((-2) ≠ -2 ∧ f = 0 ∧ g = 0) from by omega)⟩

set_option maxHeartbeats 4000000 in
set_option maxRecDepth 100000 in
theorem c_X11_block (l : Launch) (E : EV) (ad : Nat → Nat) (k : Nat) (nb : Nat) (σ : AS) (f : Int) (g : Int) (x : Int) (y : Int) (r_x : -2147483648 ≤ x ∧ x < 2147483648) (r_y : -2147483648 ≤ y ∧ y < 2147483648) (hnb : nb ≤ 8) : MC l E yX11_block cX11_block 3 (some .int) ({ frames := 3, cells := 0, slots := 0, locals := 67 }) [.ref (ad 0), .int (iI x), .int (iI y)] [((ad 0), ob 10 [.ref (ad 1), .ref (ad 6), .ref (ad 9), .ref (ad 14), .ref (ad 19), .ref (ad 23), .ref (ad 27), .ref (ad 31), .int (iI (σ 0 0)), .int (iI (k : Int)), .int (iI f), .int (iI g)]), ((ad 14), ob 1 [.ref (ad 15), .int (iI (-1)), .ref (ad 18)]), ((ad 15), ob 5 [.ref (ad 16), .ref (ad 17), .int (iI (nb : Int))]), ((ad 16), ia E 8 (σ 10)), ((ad 17), ia E 8 (σ 11)), ((ad 18), ia E 8 (σ 12))] (fun v_ w_ => ∃ (r : Int) (nb2 : Nat) (σ2 : AS) (f2 : Int) (g2 : Int), v_ = some (.int (iI r)) ∧ w_ = [((ad 0), ob 10 [.ref (ad 1), .ref (ad 6), .ref (ad 9), .ref (ad 14), .ref (ad 19), .ref (ad 23), .ref (ad 27), .ref (ad 31), .int (iI (σ2 0 0)), .int (iI (k : Int)), .int (iI f2), .int (iI g2)]), ((ad 14), ob 1 [.ref (ad 15), .int (iI (-1)), .ref (ad 18)]), ((ad 15), ob 5 [.ref (ad 16), .ref (ad 17), .int (iI (nb2 : Int))]), ((ad 16), ia E 8 (σ2 10)), ((ad 17), ia E 8 (σ2 11)), ((ad 18), ia E 8 (σ2 12))] ∧ ((r, nb2, σ2) = sp_block nb σ x y) ∧ ((r < 0 ∧ f2 = f ∧ g2 = g) ∨ (0 ≤ r ∧ f2 = 0 ∧ g2 = 0))) := by
  refine MC.of (by decide +kernel) (Nat.le_of_ble_eq_true rfl) ?_
  intro p_ e_ s_ m_ args_ below_ meth_ c_ A_ C hr hnm
  have C : Cx p_ s_ m_ args_ meth_ c_ E A_ 3 cX11_block RX11 := C
  show Wx _ _ _ _ _ _ _ _ _ _ _ _ _ _ _ _ 0 [(0, .ref (ad 0)), (1, .int (iI x)), (2, .int (iI y))] [] [((ad 0), ob 10 [.ref (ad 1), .ref (ad 6), .ref (ad 9), .ref (ad 14), .ref (ad 19), .ref (ad 23), .ref (ad 27), .ref (ad 31), .int (iI (σ 0 0)), .int (iI (k : Int)), .int (iI f), .int (iI g)]), ((ad 14), ob 1 [.ref (ad 15), .int (iI (-1)), .ref (ad 18)]), ((ad 15), ob 5 [.ref (ad 16), .ref (ad 17), .int (iI (nb : Int))]), ((ad 16), ia E 8 (σ 10)), ((ad 17), ia E 8 (σ 11)), ((ad 18), ia E 8 (σ 12))]
  refine x_iload_n (pc' := 1) C 1 dX11_block_0 rfl rfl ?_
  refine x_iload_n (pc' := 2) C 2 dX11_block_1 rfl rfl ?_
  refine x_callS (pc' := 5) (As := [.int (iI x), .int (iI y)]) (rest := []) C cs_X11_100 dX11_block_2 rfl (c_X11_isLine l E x y (show -2147483648 ≤ x ∧ x < 2147483648 from by omega) (show -2147483648 ≤ y ∧ y < 2147483648 from by omega)) mm_X11_isLine (hstk := rfl) (hlen := rfl) (hcat := Nat.le_of_ble_eq_true rfl) (isC := []) (isR := [0, 1, 2, 3, 4, 5]) (wr := [((ad 0), ob 10 [.ref (ad 1), .ref (ad 6), .ref (ad 9), .ref (ad 14), .ref (ad 19), .ref (ad 23), .ref (ad 27), .ref (ad 31), .int (iI (σ 0 0)), .int (iI (k : Int)), .int (iI f), .int (iI g)]), ((ad 14), ob 1 [.ref (ad 15), .int (iI (-1)), .ref (ad 18)]), ((ad 15), ob 5 [.ref (ad 16), .ref (ad 17), .int (iI (nb : Int))]), ((ad 16), ia E 8 (σ 10)), ((ad 17), ia E 8 (σ 11)), ((ad 18), ia E 8 (σ 12))]) (hC := rfl) (hR := rfl) (hnC := rfl) (hn := rfl) (hdis := by decide) (hR1 := ⟨Nat.le_of_ble_eq_true rfl, Nat.le_of_ble_eq_true rfl⟩) (hcs := ⟨Nat.le_of_ble_eq_true rfl, Nat.le_of_ble_eq_true rfl⟩) (fun v_ w_ hp_ => ?_)
  obtain ⟨rfl, rfl⟩ := hp_
  show Wx _ _ _ _ _ _ _ _ _ _ _ _ _ _ _ _ 5 [(0, .ref (ad 0)), (1, .int (iI x)), (2, .int (iI y))] [.int (iI (bI (((-100 ≤ x ∧ x ≤ 100) ∧ -100 ≤ y) ∧ y ≤ 100)))] [((ad 0), ob 10 [.ref (ad 1), .ref (ad 6), .ref (ad 9), .ref (ad 14), .ref (ad 19), .ref (ad 23), .ref (ad 27), .ref (ad 31), .int (iI (σ 0 0)), .int (iI (k : Int)), .int (iI f), .int (iI g)]), ((ad 14), ob 1 [.ref (ad 15), .int (iI (-1)), .ref (ad 18)]), ((ad 15), ob 5 [.ref (ad 16), .ref (ad 17), .int (iI (nb : Int))]), ((ad 16), ia E 8 (σ 10)), ((ad 17), ia E 8 (σ 11)), ((ad 18), ia E 8 (σ 12))]
  refine x_if_ne (pc' := 8) (tgt := 11) C dX11_block_5 rfl (by decide) (bI_rng) (fun c5 => ?_) (fun c5 => ?_)
  ·
    replace c5 := bI_nz c5
    refine x_aload_n (pc' := 12) C 0 dX11_block_11 rfl rfl ?_
    refine x_get (pc' := 15) C dX11_block_12 rfl ff_X11_35_10 0 rfl rfl ?_
    refine x_get (pc' := 18) C dX11_block_15 rfl ff_X11_126_1 1 rfl rfl ?_
    refine x_callV (pc' := 21) (As := []) (rest := []) (q0 := 0) C rfl rfl cv_X11_118_X6 dX11_block_18 rfl (c_X6_isFull l E (ad 15) (ad 16) (ad 17) nb 8 (σ 10) (show nb < 1000000 from by omega) (show 8 < 1000000 from by omega)) mm_X6_isFull (hstk := rfl) (hlen := rfl) (hcat := Nat.le_of_ble_eq_true rfl) (isC := [2, 3]) (isR := [0, 1, 4, 5]) (wr := [((ad 0), ob 10 [.ref (ad 1), .ref (ad 6), .ref (ad 9), .ref (ad 14), .ref (ad 19), .ref (ad 23), .ref (ad 27), .ref (ad 31), .int (iI (σ 0 0)), .int (iI (k : Int)), .int (iI f), .int (iI g)]), ((ad 14), ob 1 [.ref (ad 15), .int (iI (-1)), .ref (ad 18)]), ((ad 17), ia E 8 (σ 11)), ((ad 18), ia E 8 (σ 12))]) (hC := rfl) (hR := rfl) (hnC := rfl) (hn := rfl) (hdis := by decide) (hR1 := ⟨Nat.le_of_ble_eq_true rfl, Nat.le_of_ble_eq_true rfl⟩) (hcs := ⟨Nat.le_of_ble_eq_true rfl, Nat.le_of_ble_eq_true rfl⟩) (fun v_ w_ hp_ => ?_)
    obtain ⟨rfl, rfl⟩ := hp_
    show Wx _ _ _ _ _ _ _ _ _ _ _ _ _ _ _ _ 21 [(0, .ref (ad 0)), (1, .int (iI x)), (2, .int (iI y))] [.int (iI (bI (8 ≤ nb)))] [((ad 0), ob 10 [.ref (ad 1), .ref (ad 6), .ref (ad 9), .ref (ad 14), .ref (ad 19), .ref (ad 23), .ref (ad 27), .ref (ad 31), .int (iI (σ 0 0)), .int (iI (k : Int)), .int (iI f), .int (iI g)]), ((ad 14), ob 1 [.ref (ad 15), .int (iI (-1)), .ref (ad 18)]), ((ad 17), ia E 8 (σ 11)), ((ad 18), ia E 8 (σ 12)), ((ad 15), ob 5 [.ref (ad 16), .ref (ad 17), .int (iI (nb : Int))]), ((ad 16), ia E 8 (σ 10))]
    refine x_sub (ws' := [((ad 0), ob 10 [.ref (ad 1), .ref (ad 6), .ref (ad 9), .ref (ad 14), .ref (ad 19), .ref (ad 23), .ref (ad 27), .ref (ad 31), .int (iI (σ 0 0)), .int (iI (k : Int)), .int (iI f), .int (iI g)]), ((ad 14), ob 1 [.ref (ad 15), .int (iI (-1)), .ref (ad 18)]), ((ad 15), ob 5 [.ref (ad 16), .ref (ad 17), .int (iI (nb : Int))]), ((ad 16), ia E 8 (σ 10)), ((ad 17), ia E 8 (σ 11)), ((ad 18), ia E 8 (σ 12))]) [0, 1, 4, 5, 2, 3] rfl rfl ?_
    refine x_if_eq (pc' := 24) (tgt := 27) C dX11_block_21 rfl (by decide) (bI_rng) (fun c21 => ?_) (fun c21 => ?_)
    ·
      replace c21 := bI_z c21
      refine x_aload_n (pc' := 28) C 0 dX11_block_27 rfl rfl ?_
      refine x_callV (pc' := 31) (As := []) (rest := []) (q0 := 0) C rfl rfl cv_X11_93_X11 dX11_block_28 rfl (c_X11_forgetPlans l E ad k σ f g ) mm_X11_forgetPlans (hstk := rfl) (hlen := rfl) (hcat := Nat.le_of_ble_eq_true rfl) (isC := [0]) (isR := [1, 2, 3, 4, 5]) (wr := [((ad 14), ob 1 [.ref (ad 15), .int (iI (-1)), .ref (ad 18)]), ((ad 15), ob 5 [.ref (ad 16), .ref (ad 17), .int (iI (nb : Int))]), ((ad 16), ia E 8 (σ 10)), ((ad 17), ia E 8 (σ 11)), ((ad 18), ia E 8 (σ 12))]) (hC := rfl) (hR := rfl) (hnC := rfl) (hn := rfl) (hdis := by decide) (hR1 := ⟨Nat.le_of_ble_eq_true rfl, Nat.le_of_ble_eq_true rfl⟩) (hcs := ⟨Nat.le_of_ble_eq_true rfl, Nat.le_of_ble_eq_true rfl⟩) (fun v_ w_ hp_ => ?_)
      obtain ⟨rfl, rfl⟩ := hp_
      show Wx _ _ _ _ _ _ _ _ _ _ _ _ _ _ _ _ 31 [(0, .ref (ad 0)), (1, .int (iI x)), (2, .int (iI y))] [] [((ad 14), ob 1 [.ref (ad 15), .int (iI (-1)), .ref (ad 18)]), ((ad 15), ob 5 [.ref (ad 16), .ref (ad 17), .int (iI (nb : Int))]), ((ad 16), ia E 8 (σ 10)), ((ad 17), ia E 8 (σ 11)), ((ad 18), ia E 8 (σ 12)), ((ad 0), ob 10 [.ref (ad 1), .ref (ad 6), .ref (ad 9), .ref (ad 14), .ref (ad 19), .ref (ad 23), .ref (ad 27), .ref (ad 31), .int (iI (σ 0 0)), .int (iI (k : Int)), .int (iI 0), .int (iI 0)])]
      refine x_sub (ws' := [((ad 0), ob 10 [.ref (ad 1), .ref (ad 6), .ref (ad 9), .ref (ad 14), .ref (ad 19), .ref (ad 23), .ref (ad 27), .ref (ad 31), .int (iI (σ 0 0)), .int (iI (k : Int)), .int (iI 0), .int (iI 0)]), ((ad 14), ob 1 [.ref (ad 15), .int (iI (-1)), .ref (ad 18)]), ((ad 15), ob 5 [.ref (ad 16), .ref (ad 17), .int (iI (nb : Int))]), ((ad 16), ia E 8 (σ 10)), ((ad 17), ia E 8 (σ 11)), ((ad 18), ia E 8 (σ 12))]) [5, 0, 1, 2, 3, 4] rfl rfl ?_
      refine x_aload_n (pc' := 32) C 0 dX11_block_31 rfl rfl ?_
      refine x_get (pc' := 35) C dX11_block_32 rfl ff_X11_35_10 0 rfl rfl ?_
      refine x_iload_n (pc' := 36) C 1 dX11_block_35 rfl rfl ?_
      refine x_iload_n (pc' := 37) C 2 dX11_block_36 rfl rfl ?_
      refine x_callV (pc' := 40) (As := [.int (iI x), .int (iI y)]) (rest := []) (q0 := 0) C rfl rfl cv_X11_127_X1 dX11_block_37 rfl (c_X1_appendBlock l E (ad 14) (ad 15) (ad 16) (ad 17) (ad 18) nb (-1) x y (σ 10) (σ 11) (σ 12) (show nb < 8 from by omega)) mm_X1_appendBlock (hstk := rfl) (hlen := rfl) (hcat := Nat.le_of_ble_eq_true rfl) (isC := [1, 2, 3, 4, 5]) (isR := [0]) (wr := [((ad 0), ob 10 [.ref (ad 1), .ref (ad 6), .ref (ad 9), .ref (ad 14), .ref (ad 19), .ref (ad 23), .ref (ad 27), .ref (ad 31), .int (iI (σ 0 0)), .int (iI (k : Int)), .int (iI 0), .int (iI 0)])]) (hC := rfl) (hR := rfl) (hnC := rfl) (hn := rfl) (hdis := by decide) (hR1 := ⟨Nat.le_of_ble_eq_true rfl, Nat.le_of_ble_eq_true rfl⟩) (hcs := ⟨Nat.le_of_ble_eq_true rfl, Nat.le_of_ble_eq_true rfl⟩) (fun v_ w_ hp_ => ?_)
      obtain ⟨rfl, rfl⟩ := hp_
      show Wx _ _ _ _ _ _ _ _ _ _ _ _ _ _ _ _ 40 [(0, .ref (ad 0)), (1, .int (iI x)), (2, .int (iI y))] [.int (iI (nb : Int))] [((ad 0), ob 10 [.ref (ad 1), .ref (ad 6), .ref (ad 9), .ref (ad 14), .ref (ad 19), .ref (ad 23), .ref (ad 27), .ref (ad 31), .int (iI (σ 0 0)), .int (iI (k : Int)), .int (iI 0), .int (iI 0)]), ((ad 14), ob 1 [.ref (ad 15), .int (iI (-1)), .ref (ad 18)]), ((ad 15), ob 5 [.ref (ad 16), .ref (ad 17), .int (iI ((nb + 1 : Nat) : Int))]), ((ad 16), ia E 8 (va_up (σ 10) nb x)), ((ad 17), ia E 8 (va_up (σ 11) nb y)), ((ad 18), ia E 8 (va_up (σ 12) nb 0))]
      refine x_ws (ws' := [((ad 0), ob 10 [.ref (ad 1), .ref (ad 6), .ref (ad 9), .ref (ad 14), .ref (ad 19), .ref (ad 23), .ref (ad 27), .ref (ad 31), .int (iI ((ap (ap (ap σ 10 nb x) 11 nb y) 12 nb 0) 0 0)), .int (iI (k : Int)), .int (iI 0), .int (iI 0)]), ((ad 14), ob 1 [.ref (ad 15), .int (iI (-1)), .ref (ad 18)]), ((ad 15), ob 5 [.ref (ad 16), .ref (ad 17), .int (iI ((nb + 1 : Nat) : Int))]), ((ad 16), ia E 8 ((ap (ap (ap σ 10 nb x) 11 nb y) 12 nb 0) 10)), ((ad 17), ia E 8 ((ap (ap (ap σ 10 nb x) 11 nb y) 12 nb 0) 11)), ((ad 18), ia E 8 ((ap (ap (ap σ 10 nb x) 11 nb y) 12 nb 0) 12))]) (rfl) ?_
      exact x_iret C hr dX11_block_40 ⟨(nb : Int), (nb + 1), (ap (ap (ap σ 10 nb x) 11 nb y) 12 nb 0), 0, 0, rfl, rfl, (show ((nb : Int), (nb + 1), (ap (ap (ap σ 10 nb x) 11 nb y) 12 nb 0)) = sp_block nb σ x y from by unfold sp_block; first | rw [if_neg (by omega)] | rw [if_pos (by omega), if_pos (by omega)] | rw [if_pos (by omega), if_neg (by omega)] | rw [if_pos (by omega)]), (show ((nb : Int) < 0 ∧ 0 = f ∧ 0 = g) ∨ (0 ≤ (nb : Int) ∧ 0 = 0 ∧ 0 = 0) from by omega)⟩
    ·
      replace c21 := bI_nz c21
      refine x_bipush (pc' := 26) C dX11_block_24 rfl rfl ?_
      exact x_iret C hr dX11_block_26 ⟨(-4), nb, σ, f, g, rfl, rfl, (show ((-4), nb, σ) = sp_block nb σ x y from by unfold sp_block; first | rw [if_neg (by omega)] | rw [if_pos (by omega), if_pos (by omega)] | rw [if_pos (by omega), if_neg (by omega)] | rw [if_pos (by omega)]), (show ((-4) < 0 ∧ f = f ∧ g = g) ∨ (0 ≤ (-4) ∧ f = 0 ∧ g = 0) from by omega)⟩
  ·
    replace c5 := bI_z c5
    refine x_bipush (pc' := 10) C dX11_block_8 rfl rfl ?_
    exact x_iret C hr dX11_block_10 ⟨(-2), nb, σ, f, g, rfl, rfl, (show ((-2), nb, σ) = sp_block nb σ x y from by unfold sp_block; first | rw [if_neg (by omega)] | rw [if_pos (by omega), if_pos (by omega)] | rw [if_pos (by omega), if_neg (by omega)] | rw [if_pos (by omega)]), (show ((-2) < 0 ∧ f = f ∧ g = g) ∨ (0 ≤ (-2) ∧ f = 0 ∧ g = 0) from by omega)⟩

set_option maxHeartbeats 4000000 in
set_option maxRecDepth 100000 in
theorem c_X11_needs (l : Launch) (E : EV) (ad : Nat → Nat) (k : Nat) (nb : Nat) (σ : AS) (f : Int) (g : Int) (u : Int) (v : Int) (z : Int) (r_u : -2147483648 ≤ u ∧ u < 2147483648) (r_v : -2147483648 ≤ v ∧ v < 2147483648) (r_z : -2147483648 ≤ z ∧ z < 2147483648) (hnb : nb ≤ 8) (hN : ∀ j : Nat, j < nb → 0 ≤ σ 12 j ∧ σ 12 j < 256) : MC l E yX11_needs cX11_needs 4 (some .int) ({ frames := 2, cells := 0, slots := 0, locals := 43 }) [.ref (ad 0), .int (iI u), .int (iI v), .int (iI z)] [((ad 0), ob 10 [.ref (ad 1), .ref (ad 6), .ref (ad 9), .ref (ad 14), .ref (ad 19), .ref (ad 23), .ref (ad 27), .ref (ad 31), .int (iI (σ 0 0)), .int (iI (k : Int)), .int (iI f), .int (iI g)]), ((ad 14), ob 1 [.ref (ad 15), .int (iI (-1)), .ref (ad 18)]), ((ad 15), ob 5 [.ref (ad 16), .ref (ad 17), .int (iI (nb : Int))]), ((ad 18), ia E 8 (σ 12))] (fun v_ w_ => ∃ (r : Int) (σ2 : AS) (f2 : Int) (g2 : Int), v_ = some (.int (iI r)) ∧ w_ = [((ad 0), ob 10 [.ref (ad 1), .ref (ad 6), .ref (ad 9), .ref (ad 14), .ref (ad 19), .ref (ad 23), .ref (ad 27), .ref (ad 31), .int (iI (σ2 0 0)), .int (iI (k : Int)), .int (iI f2), .int (iI g2)]), ((ad 14), ob 1 [.ref (ad 15), .int (iI (-1)), .ref (ad 18)]), ((ad 15), ob 5 [.ref (ad 16), .ref (ad 17), .int (iI (nb : Int))]), ((ad 18), ia E 8 (σ2 12))] ∧ ((r, σ2) = sp_needs nb σ u v z) ∧ ((r < 0 ∧ f2 = f ∧ g2 = g) ∨ (0 ≤ r ∧ f2 = 0 ∧ g2 = 0))) := by
  refine MC.of (by decide +kernel) (Nat.le_of_ble_eq_true rfl) ?_
  intro p_ e_ s_ m_ args_ below_ meth_ c_ A_ C hr hnm
  have C : Cx p_ s_ m_ args_ meth_ c_ E A_ 4 cX11_needs RX11 := C
  show Wx _ _ _ _ _ _ _ _ _ _ _ _ _ _ _ _ 0 [(0, .ref (ad 0)), (1, .int (iI u)), (2, .int (iI v)), (3, .int (iI z))] [] [((ad 0), ob 10 [.ref (ad 1), .ref (ad 6), .ref (ad 9), .ref (ad 14), .ref (ad 19), .ref (ad 23), .ref (ad 27), .ref (ad 31), .int (iI (σ 0 0)), .int (iI (k : Int)), .int (iI f), .int (iI g)]), ((ad 14), ob 1 [.ref (ad 15), .int (iI (-1)), .ref (ad 18)]), ((ad 15), ob 5 [.ref (ad 16), .ref (ad 17), .int (iI (nb : Int))]), ((ad 18), ia E 8 (σ 12))]
  refine x_aload_n (pc' := 1) C 0 dX11_needs_0 rfl rfl ?_
  refine x_get (pc' := 4) C dX11_needs_1 rfl ff_X11_35_10 0 rfl rfl ?_
  refine x_get (pc' := 7) C dX11_needs_4 rfl ff_X11_126_1 1 rfl rfl ?_
  refine x_iload_n (pc' := 8) C 1 dX11_needs_7 rfl rfl ?_
  refine x_callV (pc' := 11) (As := [.int (iI u)]) (rest := []) (q0 := 0) C rfl rfl cv_X11_131_X6 dX11_needs_8 rfl (c_X6_has l E (ad 15) (ad 16) (ad 17) nb u (show nb < 1000000 from by omega) (show -2147483648 ≤ u ∧ u < 2147483648 from by omega)) mm_X6_has (hstk := rfl) (hlen := rfl) (hcat := Nat.le_of_ble_eq_true rfl) (isC := [2]) (isR := [0, 1, 3]) (wr := [((ad 0), ob 10 [.ref (ad 1), .ref (ad 6), .ref (ad 9), .ref (ad 14), .ref (ad 19), .ref (ad 23), .ref (ad 27), .ref (ad 31), .int (iI (σ 0 0)), .int (iI (k : Int)), .int (iI f), .int (iI g)]), ((ad 14), ob 1 [.ref (ad 15), .int (iI (-1)), .ref (ad 18)]), ((ad 18), ia E 8 (σ 12))]) (hC := rfl) (hR := rfl) (hnC := rfl) (hn := rfl) (hdis := by decide) (hR1 := ⟨Nat.le_of_ble_eq_true rfl, Nat.le_of_ble_eq_true rfl⟩) (hcs := ⟨Nat.le_of_ble_eq_true rfl, Nat.le_of_ble_eq_true rfl⟩) (fun v_ w_ hp_ => ?_)
  obtain ⟨rfl, rfl⟩ := hp_
  show Wx _ _ _ _ _ _ _ _ _ _ _ _ _ _ _ _ 11 [(0, .ref (ad 0)), (1, .int (iI u)), (2, .int (iI v)), (3, .int (iI z))] [.int (iI (bI (0 ≤ u ∧ u < (nb : Int))))] [((ad 0), ob 10 [.ref (ad 1), .ref (ad 6), .ref (ad 9), .ref (ad 14), .ref (ad 19), .ref (ad 23), .ref (ad 27), .ref (ad 31), .int (iI (σ 0 0)), .int (iI (k : Int)), .int (iI f), .int (iI g)]), ((ad 14), ob 1 [.ref (ad 15), .int (iI (-1)), .ref (ad 18)]), ((ad 18), ia E 8 (σ 12)), ((ad 15), ob 5 [.ref (ad 16), .ref (ad 17), .int (iI (nb : Int))])]
  refine x_sub (ws' := [((ad 0), ob 10 [.ref (ad 1), .ref (ad 6), .ref (ad 9), .ref (ad 14), .ref (ad 19), .ref (ad 23), .ref (ad 27), .ref (ad 31), .int (iI (σ 0 0)), .int (iI (k : Int)), .int (iI f), .int (iI g)]), ((ad 14), ob 1 [.ref (ad 15), .int (iI (-1)), .ref (ad 18)]), ((ad 15), ob 5 [.ref (ad 16), .ref (ad 17), .int (iI (nb : Int))]), ((ad 18), ia E 8 (σ 12))]) [0, 1, 3, 2] rfl rfl ?_
  refine x_if_eq (pc' := 14) (tgt := 33) C dX11_needs_11 rfl (by decide) (bI_rng) (fun c11 => ?_) (fun c11 => ?_)
  ·
    replace c11 := bI_z c11
    refine x_bipush (pc' := 35) C dX11_needs_33 rfl rfl ?_
    exact x_iret C hr dX11_needs_35 ⟨(-2), σ, f, g, rfl, rfl, (show ((-2), σ) = sp_needs nb σ u v z from by unfold sp_needs; rw [if_neg (by omega)]), (show ((-2) < 0 ∧ f = f ∧ g = g) ∨ (0 ≤ (-2) ∧ f = 0 ∧ g = 0) from by omega)⟩
  ·
    replace c11 := bI_nz c11
    refine x_aload_n (pc' := 15) C 0 dX11_needs_14 rfl rfl ?_
    refine x_get (pc' := 18) C dX11_needs_15 rfl ff_X11_35_10 0 rfl rfl ?_
    refine x_get (pc' := 21) C dX11_needs_18 rfl ff_X11_126_1 1 rfl rfl ?_
    refine x_iload_n (pc' := 22) C 2 dX11_needs_21 rfl rfl ?_
    refine x_callV (pc' := 25) (As := [.int (iI v)]) (rest := []) (q0 := 0) C rfl rfl cv_X11_131_X6 dX11_needs_22 rfl (c_X6_has l E (ad 15) (ad 16) (ad 17) nb v (show nb < 1000000 from by omega) (show -2147483648 ≤ v ∧ v < 2147483648 from by omega)) mm_X6_has (hstk := rfl) (hlen := rfl) (hcat := Nat.le_of_ble_eq_true rfl) (isC := [2]) (isR := [0, 1, 3]) (wr := [((ad 0), ob 10 [.ref (ad 1), .ref (ad 6), .ref (ad 9), .ref (ad 14), .ref (ad 19), .ref (ad 23), .ref (ad 27), .ref (ad 31), .int (iI (σ 0 0)), .int (iI (k : Int)), .int (iI f), .int (iI g)]), ((ad 14), ob 1 [.ref (ad 15), .int (iI (-1)), .ref (ad 18)]), ((ad 18), ia E 8 (σ 12))]) (hC := rfl) (hR := rfl) (hnC := rfl) (hn := rfl) (hdis := by decide) (hR1 := ⟨Nat.le_of_ble_eq_true rfl, Nat.le_of_ble_eq_true rfl⟩) (hcs := ⟨Nat.le_of_ble_eq_true rfl, Nat.le_of_ble_eq_true rfl⟩) (fun v_ w_ hp_ => ?_)
    obtain ⟨rfl, rfl⟩ := hp_
    show Wx _ _ _ _ _ _ _ _ _ _ _ _ _ _ _ _ 25 [(0, .ref (ad 0)), (1, .int (iI u)), (2, .int (iI v)), (3, .int (iI z))] [.int (iI (bI (0 ≤ v ∧ v < (nb : Int))))] [((ad 0), ob 10 [.ref (ad 1), .ref (ad 6), .ref (ad 9), .ref (ad 14), .ref (ad 19), .ref (ad 23), .ref (ad 27), .ref (ad 31), .int (iI (σ 0 0)), .int (iI (k : Int)), .int (iI f), .int (iI g)]), ((ad 14), ob 1 [.ref (ad 15), .int (iI (-1)), .ref (ad 18)]), ((ad 18), ia E 8 (σ 12)), ((ad 15), ob 5 [.ref (ad 16), .ref (ad 17), .int (iI (nb : Int))])]
    refine x_sub (ws' := [((ad 0), ob 10 [.ref (ad 1), .ref (ad 6), .ref (ad 9), .ref (ad 14), .ref (ad 19), .ref (ad 23), .ref (ad 27), .ref (ad 31), .int (iI (σ 0 0)), .int (iI (k : Int)), .int (iI f), .int (iI g)]), ((ad 14), ob 1 [.ref (ad 15), .int (iI (-1)), .ref (ad 18)]), ((ad 15), ob 5 [.ref (ad 16), .ref (ad 17), .int (iI (nb : Int))]), ((ad 18), ia E 8 (σ 12))]) [0, 1, 3, 2] rfl rfl ?_
    refine x_if_eq (pc' := 28) (tgt := 33) C dX11_needs_25 rfl (by decide) (bI_rng) (fun c25 => ?_) (fun c25 => ?_)
    ·
      replace c25 := bI_z c25
      refine x_bipush (pc' := 35) C dX11_needs_33 rfl rfl ?_
      exact x_iret C hr dX11_needs_35 ⟨(-2), σ, f, g, rfl, rfl, (show ((-2), σ) = sp_needs nb σ u v z from by unfold sp_needs; rw [if_neg (by omega)]), (show ((-2) < 0 ∧ f = f ∧ g = g) ∨ (0 ≤ (-2) ∧ f = 0 ∧ g = 0) from by omega)⟩
    ·
      replace c25 := bI_nz c25
      refine x_iload_n (pc' := 29) C 1 dX11_needs_28 rfl rfl ?_
      refine x_iload_n (pc' := 30) C 2 dX11_needs_29 rfl rfl ?_
      refine x_icmp_ne (pc' := 33) (tgt := 36) C dX11_needs_30 rfl (by decide) (by omega) (by omega) (fun c30 => ?_) (fun c30 => ?_)
      ·
        refine x_aload_n (pc' := 37) C 0 dX11_needs_36 rfl rfl ?_
        refine x_get (pc' := 40) C dX11_needs_37 rfl ff_X11_35_10 0 rfl rfl ?_
        refine x_iload_n (pc' := 41) C 1 dX11_needs_40 rfl rfl ?_
        refine x_iload_n (pc' := 42) C 2 dX11_needs_41 rfl rfl ?_
        refine x_stI (st' := [.int (iI v), .int (iI (u.toNat : Int)), .ref (ad 14)]) 1 rfl (by omega) rfl ?_
        refine x_stI (st' := [.int (iI (v.toNat : Int)), .int (iI (u.toNat : Int)), .ref (ad 14)]) 0 rfl (by omega) rfl ?_
        refine x_callV (pc' := 45) (As := [.int (iI (u.toNat : Int)), .int (iI (v.toNat : Int))]) (rest := []) (q0 := 0) C rfl rfl cv_X11_135_X1 dX11_needs_42 rfl (c_X1_isNeeded l E (ad 14) (ad 15) (ad 18) u.toNat v.toNat (-1) (σ 12) (show u.toNat < 8 from by omega) (show v.toNat < 8 from by omega) (show 0 ≤ (σ 12) u.toNat ∧ (σ 12) u.toNat < 256 from hN _ (by omega))) mm_X1_isNeeded (hstk := rfl) (hlen := rfl) (hcat := Nat.le_of_ble_eq_true rfl) (isC := [1, 3]) (isR := [0, 2]) (wr := [((ad 0), ob 10 [.ref (ad 1), .ref (ad 6), .ref (ad 9), .ref (ad 14), .ref (ad 19), .ref (ad 23), .ref (ad 27), .ref (ad 31), .int (iI (σ 0 0)), .int (iI (k : Int)), .int (iI f), .int (iI g)]), ((ad 15), ob 5 [.ref (ad 16), .ref (ad 17), .int (iI (nb : Int))])]) (hC := rfl) (hR := rfl) (hnC := rfl) (hn := rfl) (hdis := by decide) (hR1 := ⟨Nat.le_of_ble_eq_true rfl, Nat.le_of_ble_eq_true rfl⟩) (hcs := ⟨Nat.le_of_ble_eq_true rfl, Nat.le_of_ble_eq_true rfl⟩) (fun v_ w_ hp_ => ?_)
        obtain ⟨rfl, rfl⟩ := hp_
        show Wx _ _ _ _ _ _ _ _ _ _ _ _ _ _ _ _ 45 [(0, .ref (ad 0)), (1, .int (iI u)), (2, .int (iI v)), (3, .int (iI z))] [.int (iI (bI (((σ 12) u.toNat).toNat.testBit v.toNat = true)))] [((ad 0), ob 10 [.ref (ad 1), .ref (ad 6), .ref (ad 9), .ref (ad 14), .ref (ad 19), .ref (ad 23), .ref (ad 27), .ref (ad 31), .int (iI (σ 0 0)), .int (iI (k : Int)), .int (iI f), .int (iI g)]), ((ad 15), ob 5 [.ref (ad 16), .ref (ad 17), .int (iI (nb : Int))]), ((ad 14), ob 1 [.ref (ad 15), .int (iI (-1)), .ref (ad 18)]), ((ad 18), ia E 8 (σ 12))]
        refine x_sub (ws' := [((ad 0), ob 10 [.ref (ad 1), .ref (ad 6), .ref (ad 9), .ref (ad 14), .ref (ad 19), .ref (ad 23), .ref (ad 27), .ref (ad 31), .int (iI (σ 0 0)), .int (iI (k : Int)), .int (iI f), .int (iI g)]), ((ad 14), ob 1 [.ref (ad 15), .int (iI (-1)), .ref (ad 18)]), ((ad 15), ob 5 [.ref (ad 16), .ref (ad 17), .int (iI (nb : Int))]), ((ad 18), ia E 8 (σ 12))]) [0, 2, 1, 3] rfl rfl ?_
        refine x_iload_n (pc' := 46) C 3 dX11_needs_45 rfl rfl ?_
        refine x_icmp_ne (pc' := 49) (tgt := 52) C dX11_needs_46 rfl (by decide) (bI_rng) (by omega) (fun c46 => ?_) (fun c46 => ?_)
        ·
          refine x_aload_n (pc' := 53) C 0 dX11_needs_52 rfl rfl ?_
          refine x_get (pc' := 56) C dX11_needs_53 rfl ff_X11_35_10 0 rfl rfl ?_
          refine x_iload_n (pc' := 57) C 1 dX11_needs_56 rfl rfl ?_
          refine x_iload_n (pc' := 58) C 2 dX11_needs_57 rfl rfl ?_
          refine x_stI (st' := [.int (iI v), .int (iI (u.toNat : Int)), .ref (ad 14)]) 1 rfl (by omega) rfl ?_
          refine x_stI (st' := [.int (iI (v.toNat : Int)), .int (iI (u.toNat : Int)), .ref (ad 14)]) 0 rfl (by omega) rfl ?_
          refine x_callV (pc' := 61) (As := [.int (iI (u.toNat : Int)), .int (iI (v.toNat : Int))]) (rest := []) (q0 := 0) C rfl rfl cv_X11_138_X1 dX11_needs_58 rfl (c_X1_turnNeed l E (ad 14) (ad 15) (ad 18) u.toNat v.toNat (-1) (σ 12) (show u.toNat < 8 from by omega) (show v.toNat < 8 from by omega) (show 0 ≤ (σ 12) u.toNat ∧ (σ 12) u.toNat < 256 from hN _ (by omega))) mm_X1_turnNeed (hstk := rfl) (hlen := rfl) (hcat := Nat.le_of_ble_eq_true rfl) (isC := [1, 3]) (isR := [0, 2]) (wr := [((ad 0), ob 10 [.ref (ad 1), .ref (ad 6), .ref (ad 9), .ref (ad 14), .ref (ad 19), .ref (ad 23), .ref (ad 27), .ref (ad 31), .int (iI (σ 0 0)), .int (iI (k : Int)), .int (iI f), .int (iI g)]), ((ad 15), ob 5 [.ref (ad 16), .ref (ad 17), .int (iI (nb : Int))])]) (hC := rfl) (hR := rfl) (hnC := rfl) (hn := rfl) (hdis := by decide) (hR1 := ⟨Nat.le_of_ble_eq_true rfl, Nat.le_of_ble_eq_true rfl⟩) (hcs := ⟨Nat.le_of_ble_eq_true rfl, Nat.le_of_ble_eq_true rfl⟩) (fun v_ w_ hp_ => ?_)
          obtain ⟨rfl, rfl⟩ := hp_
          show Wx _ _ _ _ _ _ _ _ _ _ _ _ _ _ _ _ 61 [(0, .ref (ad 0)), (1, .int (iI u)), (2, .int (iI v)), (3, .int (iI z))] [] [((ad 0), ob 10 [.ref (ad 1), .ref (ad 6), .ref (ad 9), .ref (ad 14), .ref (ad 19), .ref (ad 23), .ref (ad 27), .ref (ad 31), .int (iI (σ 0 0)), .int (iI (k : Int)), .int (iI f), .int (iI g)]), ((ad 15), ob 5 [.ref (ad 16), .ref (ad 17), .int (iI (nb : Int))]), ((ad 14), ob 1 [.ref (ad 15), .int (iI (-1)), .ref (ad 18)]), ((ad 18), ia E 8 (va_up (σ 12) u.toNat ((((σ 12) u.toNat).toNat ^^^ 2 ^ v.toNat : Nat) : Int)))]
          refine x_sub (ws' := [((ad 0), ob 10 [.ref (ad 1), .ref (ad 6), .ref (ad 9), .ref (ad 14), .ref (ad 19), .ref (ad 23), .ref (ad 27), .ref (ad 31), .int (iI (σ 0 0)), .int (iI (k : Int)), .int (iI f), .int (iI g)]), ((ad 14), ob 1 [.ref (ad 15), .int (iI (-1)), .ref (ad 18)]), ((ad 15), ob 5 [.ref (ad 16), .ref (ad 17), .int (iI (nb : Int))]), ((ad 18), ia E 8 (va_up (σ 12) u.toNat ((((σ 12) u.toNat).toNat ^^^ 2 ^ v.toNat : Nat) : Int)))]) [0, 2, 1, 3] rfl rfl ?_
          refine x_aload_n (pc' := 62) C 0 dX11_needs_61 rfl rfl ?_
          refine x_callV (pc' := 65) (As := []) (rest := []) (q0 := 0) C rfl rfl cv_X11_93_X11 dX11_needs_62 rfl (c_X11_forgetPlans l E ad k σ f g ) mm_X11_forgetPlans (hstk := rfl) (hlen := rfl) (hcat := Nat.le_of_ble_eq_true rfl) (isC := [0]) (isR := [1, 2, 3]) (wr := [((ad 14), ob 1 [.ref (ad 15), .int (iI (-1)), .ref (ad 18)]), ((ad 15), ob 5 [.ref (ad 16), .ref (ad 17), .int (iI (nb : Int))]), ((ad 18), ia E 8 (va_up (σ 12) u.toNat ((((σ 12) u.toNat).toNat ^^^ 2 ^ v.toNat : Nat) : Int)))]) (hC := rfl) (hR := rfl) (hnC := rfl) (hn := rfl) (hdis := by decide) (hR1 := ⟨Nat.le_of_ble_eq_true rfl, Nat.le_of_ble_eq_true rfl⟩) (hcs := ⟨Nat.le_of_ble_eq_true rfl, Nat.le_of_ble_eq_true rfl⟩) (fun v_ w_ hp_ => ?_)
          obtain ⟨rfl, rfl⟩ := hp_
          show Wx _ _ _ _ _ _ _ _ _ _ _ _ _ _ _ _ 65 [(0, .ref (ad 0)), (1, .int (iI u)), (2, .int (iI v)), (3, .int (iI z))] [] [((ad 14), ob 1 [.ref (ad 15), .int (iI (-1)), .ref (ad 18)]), ((ad 15), ob 5 [.ref (ad 16), .ref (ad 17), .int (iI (nb : Int))]), ((ad 18), ia E 8 (va_up (σ 12) u.toNat ((((σ 12) u.toNat).toNat ^^^ 2 ^ v.toNat : Nat) : Int))), ((ad 0), ob 10 [.ref (ad 1), .ref (ad 6), .ref (ad 9), .ref (ad 14), .ref (ad 19), .ref (ad 23), .ref (ad 27), .ref (ad 31), .int (iI (σ 0 0)), .int (iI (k : Int)), .int (iI 0), .int (iI 0)])]
          refine x_sub (ws' := [((ad 0), ob 10 [.ref (ad 1), .ref (ad 6), .ref (ad 9), .ref (ad 14), .ref (ad 19), .ref (ad 23), .ref (ad 27), .ref (ad 31), .int (iI (σ 0 0)), .int (iI (k : Int)), .int (iI 0), .int (iI 0)]), ((ad 14), ob 1 [.ref (ad 15), .int (iI (-1)), .ref (ad 18)]), ((ad 15), ob 5 [.ref (ad 16), .ref (ad 17), .int (iI (nb : Int))]), ((ad 18), ia E 8 (va_up (σ 12) u.toNat ((((σ 12) u.toNat).toNat ^^^ 2 ^ v.toNat : Nat) : Int)))]) [3, 0, 1, 2] rfl rfl ?_
          refine x_iconst (pc' := 66) C dX11_needs_65 rfl ?_
          refine x_ws (ws' := [((ad 0), ob 10 [.ref (ad 1), .ref (ad 6), .ref (ad 9), .ref (ad 14), .ref (ad 19), .ref (ad 23), .ref (ad 27), .ref (ad 31), .int (iI ((ap σ 12 u.toNat (((σ 12 u.toNat).toNat ^^^ 2 ^ v.toNat : Nat) : Int)) 0 0)), .int (iI (k : Int)), .int (iI 0), .int (iI 0)]), ((ad 14), ob 1 [.ref (ad 15), .int (iI (-1)), .ref (ad 18)]), ((ad 15), ob 5 [.ref (ad 16), .ref (ad 17), .int (iI (nb : Int))]), ((ad 18), ia E 8 ((ap σ 12 u.toNat (((σ 12 u.toNat).toNat ^^^ 2 ^ v.toNat : Nat) : Int)) 12))]) (rfl) ?_
          exact x_iret C hr dX11_needs_66 ⟨1, (ap σ 12 u.toNat (((σ 12 u.toNat).toNat ^^^ 2 ^ v.toNat : Nat) : Int)), 0, 0, rfl, rfl, (show (1, (ap σ 12 u.toNat (((σ 12 u.toNat).toNat ^^^ 2 ^ v.toNat : Nat) : Int))) = sp_needs nb σ u v z from by unfold sp_needs; rw [if_pos (by omega), if_neg c46]), (show (1 < 0 ∧ 0 = f ∧ 0 = g) ∨ (0 ≤ 1 ∧ 0 = 0 ∧ 0 = 0) from by omega)⟩
        ·
          refine x_bipush (pc' := 51) C dX11_needs_49 rfl rfl ?_
          exact x_iret C hr dX11_needs_51 ⟨(-3), σ, f, g, rfl, rfl, (show ((-3), σ) = sp_needs nb σ u v z from by unfold sp_needs; rw [if_pos (by omega), if_pos c46]), (show ((-3) < 0 ∧ f = f ∧ g = g) ∨ (0 ≤ (-3) ∧ f = 0 ∧ g = 0) from by omega)⟩
      ·
        refine x_bipush (pc' := 35) C dX11_needs_33 rfl rfl ?_
        exact x_iret C hr dX11_needs_35 ⟨(-2), σ, f, g, rfl, rfl, (show ((-2), σ) = sp_needs nb σ u v z from by unfold sp_needs; rw [if_neg (by omega)]), (show ((-2) < 0 ∧ f = f ∧ g = g) ∨ (0 ≤ (-2) ∧ f = 0 ∧ g = 0) from by omega)⟩

set_option maxHeartbeats 4000000 in
set_option maxRecDepth 100000 in
theorem c_X11_part (l : Launch) (E : EV) (ad : Nat → Nat) (k : Nat) (σ : AS) (f : Int) (g : Int) (t : Int) (r_t : -2147483648 ≤ t ∧ t < 2147483648) : MC l E yX11_part cX11_part 2 (some .long) ({ frames := 1, cells := 0, slots := 0, locals := 21 }) [.ref (ad 0), .int (iI t)] [((ad 0), ob 10 [.ref (ad 1), .ref (ad 6), .ref (ad 9), .ref (ad 14), .ref (ad 19), .ref (ad 23), .ref (ad 27), .ref (ad 31), .int (iI (σ 0 0)), .int (iI (k : Int)), .int (iI f), .int (iI g)]), ((ad 31), ob 0 [.long (lI (σ 0 6)), .long (lI (σ 0 7))])] (fun v_ w_ => v_ = some (.long (lI (sp_part σ t))) ∧ w_ = [((ad 0), ob 10 [.ref (ad 1), .ref (ad 6), .ref (ad 9), .ref (ad 14), .ref (ad 19), .ref (ad 23), .ref (ad 27), .ref (ad 31), .int (iI (σ 0 0)), .int (iI (k : Int)), .int (iI f), .int (iI g)]), ((ad 31), ob 0 [.long (lI (σ 0 6)), .long (lI (σ 0 7))])]) := by
  refine MC.of (by decide +kernel) (Nat.le_of_ble_eq_true rfl) ?_
  intro p_ e_ s_ m_ args_ below_ meth_ c_ A_ C hr hnm
  have C : Cx p_ s_ m_ args_ meth_ c_ E A_ 2 cX11_part RX11 := C
  show Wx _ _ _ _ _ _ _ _ _ _ _ _ _ _ _ _ 0 [(0, .ref (ad 0)), (1, .int (iI t))] [] [((ad 0), ob 10 [.ref (ad 1), .ref (ad 6), .ref (ad 9), .ref (ad 14), .ref (ad 19), .ref (ad 23), .ref (ad 27), .ref (ad 31), .int (iI (σ 0 0)), .int (iI (k : Int)), .int (iI f), .int (iI g)]), ((ad 31), ob 0 [.long (lI (σ 0 6)), .long (lI (σ 0 7))])]
  refine x_iload_n (pc' := 1) C 1 dX11_part_0 rfl rfl ?_
  refine x_iconst (pc' := 2) C dX11_part_1 rfl ?_
  refine x_callS (pc' := 5) (As := [.int (iI t), .int (iI 2)]) (rest := []) C cs_X11_96 dX11_part_2 rfl (c_X11_isBelow l E t 2 (show -2147483648 ≤ t ∧ t < 2147483648 from by omega) (show -2147483648 ≤ 2 ∧ 2 < 2147483648 from by omega)) mm_X11_isBelow (hstk := rfl) (hlen := rfl) (hcat := Nat.le_of_ble_eq_true rfl) (isC := []) (isR := [0, 1]) (wr := [((ad 0), ob 10 [.ref (ad 1), .ref (ad 6), .ref (ad 9), .ref (ad 14), .ref (ad 19), .ref (ad 23), .ref (ad 27), .ref (ad 31), .int (iI (σ 0 0)), .int (iI (k : Int)), .int (iI f), .int (iI g)]), ((ad 31), ob 0 [.long (lI (σ 0 6)), .long (lI (σ 0 7))])]) (hC := rfl) (hR := rfl) (hnC := rfl) (hn := rfl) (hdis := by decide) (hR1 := ⟨Nat.le_of_ble_eq_true rfl, Nat.le_of_ble_eq_true rfl⟩) (hcs := ⟨Nat.le_of_ble_eq_true rfl, Nat.le_of_ble_eq_true rfl⟩) (fun v_ w_ hp_ => ?_)
  obtain ⟨rfl, rfl⟩ := hp_
  show Wx _ _ _ _ _ _ _ _ _ _ _ _ _ _ _ _ 5 [(0, .ref (ad 0)), (1, .int (iI t))] [.int (iI (bI (0 ≤ t ∧ t < 2)))] [((ad 0), ob 10 [.ref (ad 1), .ref (ad 6), .ref (ad 9), .ref (ad 14), .ref (ad 19), .ref (ad 23), .ref (ad 27), .ref (ad 31), .int (iI (σ 0 0)), .int (iI (k : Int)), .int (iI f), .int (iI g)]), ((ad 31), ob 0 [.long (lI (σ 0 6)), .long (lI (σ 0 7))])]
  refine x_if_ne (pc' := 8) (tgt := 12) C dX11_part_5 rfl (by decide) (bI_rng) (fun c5 => ?_) (fun c5 => ?_)
  ·
    replace c5 := bI_nz c5
    refine x_iload_n (pc' := 13) C 1 dX11_part_12 rfl rfl ?_
    refine x_if_ne (pc' := 16) (tgt := 26) C dX11_part_13 rfl (by decide) (by omega) (fun c13 => ?_) (fun c13 => ?_)
    ·
      refine x_aload_n (pc' := 27) C 0 dX11_part_26 rfl rfl ?_
      refine x_get (pc' := 30) C dX11_part_27 rfl ff_X11_75_10 0 rfl rfl ?_
      refine x_get (pc' := 33) C dX11_part_30 rfl ff_X11_248_0 1 rfl rfl ?_
      refine x_top (b := .long (lI (sp_part σ t))) (by unfold sp_part; first | rw [if_pos (by omega)] | rw [if_neg (by omega), if_pos (by omega)] | rw [if_neg (by omega), if_neg (by omega)]) ?_
      exact x_lret C hr dX11_part_33 ⟨rfl, rfl⟩
    ·
      refine x_aload_n (pc' := 17) C 0 dX11_part_16 rfl rfl ?_
      refine x_get (pc' := 20) C dX11_part_17 rfl ff_X11_75_10 0 rfl rfl ?_
      refine x_get (pc' := 23) C dX11_part_20 rfl ff_X11_244_0 1 rfl rfl ?_
      refine x_goto (tgt := 33) C dX11_part_23 (by decide) ?_
      refine x_top (b := .long (lI (sp_part σ t))) (by unfold sp_part; first | rw [if_pos (by omega)] | rw [if_neg (by omega), if_pos (by omega)] | rw [if_neg (by omega), if_neg (by omega)]) ?_
      exact x_lret C hr dX11_part_33 ⟨rfl, rfl⟩
  ·
    replace c5 := bI_z c5
    refine x_ldc2 (pc' := 11) (z := (-1000000000000)) C dX11_part_8 rfl kc_X11_242 rfl ?_
    refine x_top (b := .long (lI (sp_part σ t))) (by unfold sp_part; first | rw [if_pos (by omega)] | rw [if_neg (by omega), if_pos (by omega)] | rw [if_neg (by omega), if_neg (by omega)]) ?_
    exact x_lret C hr dX11_part_11 ⟨rfl, rfl⟩
