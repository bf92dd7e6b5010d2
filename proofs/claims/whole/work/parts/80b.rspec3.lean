theorem grw_n {bt fp : Nat → Int} {i : Nat} (h : ¬ grw bt fp i = true) : ¬ grw bt fp (i + 1) = true := by
  rw [show grw bt fp (i + 1) = (grw bt fp i && decide (sdiff (bt (fp i).toNat).toNat (bt (fp (i + 1)).toNat).toNat = 0)) from rfl]
  cases hb : grw bt fp i
  · simp
  · exact absurd hb h
