/-! pairings -/
theorem mt_all : (mt 0 0 4).all (fun x => decide (x < 2 ^ 16) && ftP x 4 && decide (szf x 16 = 4)) = true := by decide +kernel
theorem mt_nodup : (mt 0 0 4).Nodup := by decide +kernel
theorem mt_len : (mt 0 0 4).length = 24 := by decide +kernel
def mtr : Bool := (List.range 4).all (fun a => (List.range 4).all (fun b => (List.range 4).all (fun c => (List.range 4).all (fun d => (!(Nat.beq (2 ^ a &&& 2 ^ b) 0 && Nat.beq ((2 ^ a ||| 2 ^ b) &&& 2 ^ c) 0 && Nat.beq ((2 ^ a ||| 2 ^ b ||| 2 ^ c) &&& 2 ^ d) 0)) || (mt 0 0 4).any (fun x => Nat.beq x (2 ^ a + 16 * 2 ^ b + 256 * 2 ^ c + 4096 * 2 ^ d))))))
theorem mtr_t : mtr = true := by decide +kernel
theorem one_of : ∀ r, r < 16 → szf r 16 = 1 → ∃ a, a < 4 ∧ r = 2 ^ a := by decide +kernel
theorem ftP_s (S i : Nat) : ftP S (i + 1) = true ↔ ftP S i = true ∧ szf (prw S i) 16 = 1 ∧ oth S i &&& prw S i = 0 := by
  rw [show ftP S (i + 1) = (ftP S i && decide (szf (prw S i) 16 = 1 ∧ oth S i &&& prw S i = 0)) from rfl, Bool.and_eq_true, decide_eq_true_iff]
theorem and15 (x : Nat) : x &&& 15 = x % 16 := Nat.and_two_pow_sub_one_eq_mod x 4
theorem pair_mem (x : Nat) : x ∈ mt 0 0 4 ↔ x < 2 ^ 16 ∧ ftP x 4 = true := by
  constructor
  · intro h
    have h1 := List.all_eq_true.mp mt_all x h
    rw [Bool.and_eq_true, Bool.and_eq_true] at h1
    exact ⟨of_decide_eq_true h1.1.1, h1.1.2⟩
  · rintro ⟨hx, h⟩
    rw [ftP_s, ftP_s, ftP_s, ftP_s] at h
    obtain ⟨⟨⟨⟨-, s0, -⟩, s1, o1⟩, s2, o2⟩, s3, o3⟩ := h
    obtain ⟨a, ha, ea⟩ := one_of _ (Nat.lt_succ_of_le (prw_le x 0)) s0
    obtain ⟨b, hb, eb⟩ := one_of _ (Nat.lt_succ_of_le (prw_le x 1)) s1
    obtain ⟨c, hc, ec⟩ := one_of _ (Nat.lt_succ_of_le (prw_le x 2)) s2
    obtain ⟨d, hd, ed⟩ := one_of _ (Nat.lt_succ_of_le (prw_le x 3)) s3
    have p1 : oth x 1 = 2 ^ a := by rw [show oth x 1 = 0 ||| prw x 0 from rfl, ea, Nat.zero_or]
    have p2 : oth x 2 = 2 ^ a ||| 2 ^ b := by rw [show oth x 2 = oth x 1 ||| prw x 1 from rfl, p1, eb]
    have p3 : oth x 3 = 2 ^ a ||| 2 ^ b ||| 2 ^ c := by rw [show oth x 3 = oth x 2 ||| prw x 2 from rfl, p2, ec]
    rw [p1, eb] at o1
    rw [p2, ec] at o2
    rw [p3, ed] at o3
    have hall := List.all_eq_true.mp (List.all_eq_true.mp (List.all_eq_true.mp (List.all_eq_true.mp mtr_t a (List.mem_range.mpr ha)) b (List.mem_range.mpr hb)) c (List.mem_range.mpr hc)) d (List.mem_range.mpr hd)
    rw [o1, o2, o3] at hall
    have hany : (mt 0 0 4).any (fun x => Nat.beq x (2 ^ a + 16 * 2 ^ b + 256 * 2 ^ c + 4096 * 2 ^ d)) = true := by simpa using hall
    obtain ⟨y, hy, e⟩ := List.any_eq_true.mp hany
    have e := Nat.eq_of_beq_eq_true e
    have q0 : prw x 0 = x % 16 := by unfold prw; rw [and15]; show x / 1 % 16 = x % 16; rw [Nat.div_one]
    have q1 : prw x 1 = x / 16 % 16 := by unfold prw; rw [and15]
    have q2 : prw x 2 = x / 256 % 16 := by unfold prw; rw [and15]
    have q3 : prw x 3 = x / 4096 % 16 := by unfold prw; rw [and15]
    have ex : x = 2 ^ a + 16 * 2 ^ b + 256 * 2 ^ c + 4096 * 2 ^ d := by
      rw [← ea, ← eb, ← ec, ← ed, q0, q1, q2, q3]; omega
    rw [ex, ← e]; exact hy
/-! what the class lists, in rising order, is what fits -/
theorem lst_ok {k nl nt nb : Nat} {σ : AS} (hs : SI k nl nt nb σ) : (lst k nl nt nb σ).Nodup ∧ (lst k nl nt nb σ).length ≤ 2002 ∧ ∀ x, x ∈ lst k nl nt nb σ ↔ x < 2 ^ npF k nl nt nb ∧ fit k nl nt nb σ x = true := by
  obtain ⟨hk, hnl, hnt, hnb, h00, h04, h1, h2, h12, h3, h4, h5, h6, h7, h8, h9, h10, h11, h12b⟩ := hs
  rcases (show k = 0 ∨ k = 1 ∨ k = 2 ∨ k = 3 ∨ k = 4 by omega) with rfl | rfl | rfl | rfl | rfl
  · exact ⟨ways_nodup h2, ways_len hnl h2, ways_mem h2⟩
  · refine ⟨trees_nodup, trees_len hnl, fun x => ?_⟩
    rw [← fit_1 rfl]
    exact trees_mem hnl h1 h2 x
  · exact ⟨mt_nodup, by show (mt 0 0 4).length ≤ 2002; rw [mt_len]; decide, pair_mem⟩
  · refine ⟨List.Nodup.sublist List.filter_sublist List.nodup_range, ?_, fun x => ?_⟩
    · exact Nat.le_trans filt_len (Nat.le_trans (pow_8 hnt) (by decide))
    · show x ∈ (List.range (2 ^ nt)).filter (ftL (σ 7) nt (σ 0 4)) ↔ _
      rw [List.mem_filter, List.mem_range]; exact Iff.rfl
  · refine ⟨List.Nodup.sublist List.filter_sublist List.nodup_range, ?_, fun x => ?_⟩
    · exact Nat.le_trans filt_len (Nat.le_trans (pow_8 hnb) (by decide))
    · show x ∈ (List.range (2 ^ nb)).filter (fun q => ftH (σ 12) q nb) ↔ _
      rw [List.mem_filter, List.mem_range]; exact Iff.rfl
theorem lst_cap {k nl nt nb : Nat} {σ : AS} (hs : SI k nl nt nb σ) : (lst k nl nt nb σ).length ≤ 2002 := (lst_ok hs).2.1
theorem xs_PLs {k nl nt nb : Nat} {σ : AS} (hs : SI k nl nt nb σ) {xs : List Nat} (ho : xs.Pairwise (· ≤ ·)) (hp : xs.Perm (lst k nl nt nb σ)) : xs = PLs k nl nt nb σ := filt_eq ho hp (lst_ok hs).1 (lst_ok hs).2.2
theorem PLs_perm {k nl nt nb : Nat} {σ : AS} (hs : SI k nl nt nb σ) : (PLs k nl nt nb σ).Perm (lst k nl nt nb σ) := by
  have hn : (PLs k nl nt nb σ).Nodup := List.Nodup.sublist List.filter_sublist List.nodup_range
  rw [List.perm_ext_iff_of_nodup hn (lst_ok hs).1]
  intro x
  rw [(lst_ok hs).2.2 x]
  unfold PLs
  rw [List.mem_filter, List.mem_range]
theorem PLs_cap {k nl nt nb : Nat} {σ : AS} (hs : SI k nl nt nb σ) : (PLs k nl nt nb σ).length ≤ 2002 := by
  rw [(PLs_perm hs).length_eq]; exact lst_cap hs
/-! how far apart two plans' sums are -/
theorem sumB_cnt {f : Nat → Int} {S : Nat} : ∀ n, (∀ j : Nat, j < n → -100 ≤ f j ∧ f j ≤ 100) → -(100 * szf S n) ≤ sumB f S n ∧ sumB f S n ≤ 100 * szf S n := by
  intro n
  induction n with
  | zero => intro _; show -(100 * (0 : Int)) ≤ 0 ∧ (0 : Int) ≤ 100 * 0; omega
  | succ n ih =>
    intro h
    have h1 := ih (fun j hj => h j (by omega))
    have h2 := h n (by omega)
    rw [szf_s, show sumB f S (n + 1) = sumB f S n + (if S.testBit n then f n else 0) from rfl]
    by_cases hb : S.testBit n = true
    · rw [bI_t hb, if_pos hb]; omega
    · rw [bI_f hb, if_neg hb]; omega
theorem sumB_dif {f : Nat → Int} {S T : Nat} : ∀ n, (∀ j : Nat, j < n → -100 ≤ f j ∧ f j ≤ 100) → sumB f S n - sumB f T n ≤ 100 * (n : Int) := by
  intro n
  induction n with
  | zero => intro _; show (0 : Int) - 0 ≤ 100 * 0; omega
  | succ n ih =>
    intro h
    have h1 := ih (fun j hj => h j (by omega))
    have h2 := h n (by omega)
    rw [show sumB f S (n + 1) = sumB f S n + (if S.testBit n then f n else 0) from rfl, show sumB f T (n + 1) = sumB f T n + (if T.testBit n then f n else 0) from rfl]
    split <;> split <;> omega
theorem wy_cnt {nl : Nat} {lf lt : Nat → Int} : ∀ (d a met left : Nat), wyF nl lf lt (d + 1) a met left = true → szf left 16 ≤ (d : Int) := by
  intro d
  induction d with
  | zero =>
    intro a met left h
    by_cases h5 : a = 5
    · rw [wy_5 (by omega) h5] at h
      rw [of_decide_eq_true h, szf_0]; decide
    · obtain ⟨l, hl, hb, hf, hm, h2⟩ := wy_step h5 h
      cases h2
  | succ d ih =>
    intro a met left h
    by_cases h5 : a = 5
    · rw [wy_5 (by omega) h5] at h
      rw [of_decide_eq_true h, szf_0]; omega
    · obtain ⟨l, hl, hb, hf, hm, h2⟩ := wy_step h5 h
      have h3 := ih _ _ _ h2
      have h4 : szf (2 ^ l ||| sdiff left (2 ^ l)) 16 = szf (2 ^ l) 16 + szf (sdiff left (2 ^ l)) 16 := szf_or 16 (fun i _ hh => by
        have g1 := hh.1
        have g2 := hh.2
        rw [sdiff_tb, g1] at g2
        simp at g2)
      rw [or_sd hb] at h4
      have h5 : szf (2 ^ l) 16 ≤ 1 := by
        rcases Nat.lt_or_ge l 16 with hq | hq
        · rw [szf_2 l hq]; decide
        · have key : ∀ n, n ≤ 16 → szf (2 ^ l) n = 0 := by
            intro n
            induction n with
            | zero => intro _; rfl
            | succ n ih =>
              intro hn
              rw [szf_s, ih (by omega), Nat.testBit_two_pow, decide_eq_false (show ¬ l = n by omega)]; rfl
          rw [key 16 (Nat.le_refl _)]; decide
      omega
theorem plan_dif {k nl nt nb : Nat} {σ : AS} (hs : SI k nl nt nb σ) {f : Nat → Int} (hf : ∀ j : Nat, j < npF k nl nt nb → -100 ≤ f j ∧ f j ≤ 100) {S T : Nat} (hS : S ∈ PLs k nl nt nb σ) (hT : T ∈ PLs k nl nt nb σ) : sumB f S (npF k nl nt nb) - sumB f T (npF k nl nt nb) ≤ 1000 := by
  have hnp := SI_np hs
  obtain ⟨hk, hnl, hnt, hnb, -⟩ := hs
  have five : ∀ X, X ∈ PLs k nl nt nb σ → k < 3 → szf X 16 ≤ 5 := by
    intro X hX0 hk3
    have hX := (List.mem_filter.mp hX0).2
    have hr := List.mem_range.mp (List.mem_filter.mp hX0).1
    rcases (show k = 0 ∨ k = 1 ∨ k = 2 by omega) with rfl | rfl | rfl
    · exact wy_cnt 5 _ _ _ ((fit_0 (nl := nl) (nt := nt) (nb := nb) (σ := σ) rfl).mpr hX)
    · have := ((fit_1 (nl := nl) (nt := nt) (nb := nb) (σ := σ) rfl).mpr hX).1; omega
    · have h4 := (pair_mem X).mpr ⟨hr, (fit_2 (nl := nl) (nt := nt) (nb := nb) (σ := σ) rfl).mpr hX⟩
      have h5 := List.all_eq_true.mp mt_all X h4
      rw [Bool.and_eq_true] at h5
      have := of_decide_eq_true h5.2
      omega
  by_cases h3 : k < 3
  · have b1 := sumB_cnt (S := S) _ hf
    have b2 := sumB_cnt (S := T) _ hf
    have c1 := five S hS h3
    have c2 := five T hT h3
    have d1 := szf_mono S hnp
    have d2 := szf_mono T hnp
    omega
  · have h := sumB_dif (S := S) (T := T) _ hf
    have hn8 : npF k nl nt nb ≤ 8 := by
      unfold npF
      rw [if_neg (by omega), if_neg (by omega)]
      split <;> omega
    omega

/-! the two sides' lists, side by side -/
theorem CL_PLs {k nl nt nb : Nat} {σ κ : AS} {n : Nat} {sg : Int} (hs : SI k nl nt nb σ) (h : CL k nl nt nb σ κ n sg) : (PLs k nl nt nb σ).length = n ∧ LsA (κ 1) (PLs k nl nt nb σ) ∧ (∀ j (h : j < (PLs k nl nt nb σ).length), κ 2 j = sumB (σ (rowA k)) (PLs k nl nt nb σ)[j] (npF k nl nt nb) ∧ κ 3 j = sumB (σ (rowB k)) (PLs k nl nt nb σ)[j] (npF k nl nt nb)) ∧ sg = sgF k := by
  obtain ⟨xs, hl, hls, ho, hp, hb, hab, hsg⟩ := h
  have e := xs_PLs hs ho hp
  subst e
  exact ⟨hl, hls, hab, hsg⟩
def SM2 (κ μ : AS) (n : Nat) (sg : Int) : Prop := ∀ j : Nat, j < n → μ 2 j = κ 1 j ∧ μ 3 j = sg * κ 2 j ∧ μ 4 j = sg * κ 3 j
theorem both {k nl nt nb : Nat} {σ κ μ : AS} {n mn : Nat} {sg : Int} (hs : SI k nl nt nb σ) (h : CL k nl nt nb σ κ n sg) (h2 : LO k nl nt nb σ μ mn) : mn = n ∧ sg = sgF k ∧ SM2 κ μ n sg := by
  obtain ⟨hl, hls, hab, hsg⟩ := CL_PLs hs h
  obtain ⟨gl, gls, ga, gb⟩ := h2
  refine ⟨by omega, hsg, fun j hj => ?_⟩
  have hj2 : j < (PLs k nl nt nb σ).length := by omega
  rw [gls j hj2, hls j hj2, ga j hj2, gb j hj2, (hab j hj2).1, (hab j hj2).2, hsg]
  exact ⟨rfl, rfl, rfl⟩
theorem H140_ok {k nl nt nb : Nat} {σ : AS} (hs : SI k nl nt nb σ) : H140 k nl nt nb σ := by
  intro κ n sg h h0
  obtain ⟨hl, hls, hab, hsg⟩ := CL_PLs hs h
  have hf := SI_lines hs
  have hd : sg = 1 ∨ sg = -1 := by rw [hsg]; unfold sgF; split <;> simp
  refine at_most h0 (fun i j hi hj => ?_) (fun i j hi hj => ?_)
  · show sg * κ 2 i - sg * κ 2 j ≤ 1000
    rw [(hab i (by omega)).1, (hab j (by omega)).1]
    have a1 := plan_dif hs hf.1 (List.getElem_mem (show i < (PLs k nl nt nb σ).length by omega)) (List.getElem_mem (show j < (PLs k nl nt nb σ).length by omega))
    have a2 := plan_dif hs hf.1 (List.getElem_mem (show j < (PLs k nl nt nb σ).length by omega)) (List.getElem_mem (show i < (PLs k nl nt nb σ).length by omega))
    rcases hd with e | e <;> rw [e] <;> omega
  · show sg * κ 3 i - sg * κ 3 j ≤ 1000
    rw [(hab i (by omega)).2, (hab j (by omega)).2]
    have a1 := plan_dif hs hf.2 (List.getElem_mem (show i < (PLs k nl nt nb σ).length by omega)) (List.getElem_mem (show j < (PLs k nl nt nb σ).length by omega))
    have a2 := plan_dif hs hf.2 (List.getElem_mem (show j < (PLs k nl nt nb σ).length by omega)) (List.getElem_mem (show i < (PLs k nl nt nb σ).length by omega))
    rcases hd with e | e <;> rw [e] <;> omega
theorem H140R_ok {k nl nt nb : Nat} {σ : AS} (hs : SI k nl nt nb σ) : H140R k nl nt nb σ := by
  intro μ n h h0
  obtain ⟨hl, hls, ha, hb⟩ := h
  have hf := SI_lines hs
  have hd : sgF k = 1 ∨ sgF k = -1 := by unfold sgF; split <;> simp
  refine at_most h0 (fun i j hi hj => ?_) (fun i j hi hj => ?_)
  · rw [ha i (by omega), ha j (by omega)]
    have a1 := plan_dif hs hf.1 (List.getElem_mem (show i < (PLs k nl nt nb σ).length by omega)) (List.getElem_mem (show j < (PLs k nl nt nb σ).length by omega))
    have a2 := plan_dif hs hf.1 (List.getElem_mem (show j < (PLs k nl nt nb σ).length by omega)) (List.getElem_mem (show i < (PLs k nl nt nb σ).length by omega))
    rcases hd with e | e <;> rw [e] <;> omega
  · rw [hb i (by omega), hb j (by omega)]
    have a1 := plan_dif hs hf.2 (List.getElem_mem (show i < (PLs k nl nt nb σ).length by omega)) (List.getElem_mem (show j < (PLs k nl nt nb σ).length by omega))
    have a2 := plan_dif hs hf.2 (List.getElem_mem (show j < (PLs k nl nt nb σ).length by omega)) (List.getElem_mem (show i < (PLs k nl nt nb σ).length by omega))
    rcases hd with e | e <;> rw [e] <;> omega
