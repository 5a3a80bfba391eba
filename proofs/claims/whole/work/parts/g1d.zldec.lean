theorem mo_Zl_36 : ∀ q ∈ tb_Zl_36, decode code q.1 = .ok q.2 := by decide +kernel
theorem mo_Zl_37 : ∀ q ∈ tb_Zl_37, decode code q.1 = .ok q.2 := by decide +kernel
theorem mo_Zl_38 : ∀ q ∈ tb_Zl_38, decode code q.1 = .ok q.2 := by decide +kernel
theorem mo_Zl_39 : ∀ q ∈ tb_Zl_39, decode code q.1 = .ok q.2 := by decide +kernel
theorem mo_Zl_40 : ∀ q ∈ tb_Zl_40, decode code q.1 = .ok q.2 := by decide +kernel
theorem mo_Zl_41 : ∀ q ∈ tb_Zl_41, decode code q.1 = .ok q.2 := by decide +kernel
