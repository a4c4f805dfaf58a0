theorem pureLaw : PureLaw := by
  intro xs L hL hx
  exact law_loop hL hx L 0 100000 zM0 (by omega) (by omega) (by omega) z0_inv
