/-! ===== the law's two answers as booleans ===== -/
theorem zn_0 : narrow .boolean (.int 0) = .int 0 := by rfl
theorem zn_1 : narrow .boolean (.int 1) = .int 1 := by rfl
