theorem mo_Zl_42 : ∀ q ∈ tb_Zl_42, decode code q.1 = .ok q.2 := by decide +kernel
theorem mo_Zl_43 : ∀ q ∈ tb_Zl_43, decode code q.1 = .ok q.2 := by decide +kernel
theorem mo_Zl_44 : ∀ q ∈ tb_Zl_44, decode code q.1 = .ok q.2 := by decide +kernel
theorem mo_Zl_45 : ∀ q ∈ tb_Zl_45, decode code q.1 = .ok q.2 := by decide +kernel
theorem mo_Zl_46 : ∀ q ∈ tb_Zl_46, decode code q.1 = .ok q.2 := by decide +kernel
theorem mo_Zl_47 : ∀ q ∈ tb_Zl_47, decode code q.1 = .ok q.2 := by decide +kernel
