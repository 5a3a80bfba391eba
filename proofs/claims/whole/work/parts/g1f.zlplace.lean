theorem mp_Zl_47 : ∀ q ∈ tb_Zt_47, decode code q.1 = .ok q.2 := mo_Zl_47
theorem mp_Zl_46 : ∀ q ∈ tb_Zt_46, decode code q.1 = .ok q.2 := by
  show ∀ q ∈ tb_Zl_46 ++ tb_Zt_47, decode code q.1 = .ok q.2
  exact List.forall_mem_append.mpr ⟨mo_Zl_46, mp_Zl_47⟩
theorem mp_Zl_45 : ∀ q ∈ tb_Zt_45, decode code q.1 = .ok q.2 := by
  show ∀ q ∈ tb_Zl_45 ++ tb_Zt_46, decode code q.1 = .ok q.2
  exact List.forall_mem_append.mpr ⟨mo_Zl_45, mp_Zl_46⟩
theorem mp_Zl_44 : ∀ q ∈ tb_Zt_44, decode code q.1 = .ok q.2 := by
  show ∀ q ∈ tb_Zl_44 ++ tb_Zt_45, decode code q.1 = .ok q.2
  exact List.forall_mem_append.mpr ⟨mo_Zl_44, mp_Zl_45⟩
theorem mp_Zl_43 : ∀ q ∈ tb_Zt_43, decode code q.1 = .ok q.2 := by
  show ∀ q ∈ tb_Zl_43 ++ tb_Zt_44, decode code q.1 = .ok q.2
  exact List.forall_mem_append.mpr ⟨mo_Zl_43, mp_Zl_44⟩
theorem mp_Zl_42 : ∀ q ∈ tb_Zt_42, decode code q.1 = .ok q.2 := by
  show ∀ q ∈ tb_Zl_42 ++ tb_Zt_43, decode code q.1 = .ok q.2
  exact List.forall_mem_append.mpr ⟨mo_Zl_42, mp_Zl_43⟩
theorem mp_Zl_41 : ∀ q ∈ tb_Zt_41, decode code q.1 = .ok q.2 := by
  show ∀ q ∈ tb_Zl_41 ++ tb_Zt_42, decode code q.1 = .ok q.2
  exact List.forall_mem_append.mpr ⟨mo_Zl_41, mp_Zl_42⟩
theorem mp_Zl_40 : ∀ q ∈ tb_Zt_40, decode code q.1 = .ok q.2 := by
  show ∀ q ∈ tb_Zl_40 ++ tb_Zt_41, decode code q.1 = .ok q.2
  exact List.forall_mem_append.mpr ⟨mo_Zl_40, mp_Zl_41⟩
theorem mp_Zl_39 : ∀ q ∈ tb_Zt_39, decode code q.1 = .ok q.2 := by
  show ∀ q ∈ tb_Zl_39 ++ tb_Zt_40, decode code q.1 = .ok q.2
  exact List.forall_mem_append.mpr ⟨mo_Zl_39, mp_Zl_40⟩
theorem mp_Zl_38 : ∀ q ∈ tb_Zt_38, decode code q.1 = .ok q.2 := by
  show ∀ q ∈ tb_Zl_38 ++ tb_Zt_39, decode code q.1 = .ok q.2
  exact List.forall_mem_append.mpr ⟨mo_Zl_38, mp_Zl_39⟩
theorem mp_Zl_37 : ∀ q ∈ tb_Zt_37, decode code q.1 = .ok q.2 := by
  show ∀ q ∈ tb_Zl_37 ++ tb_Zt_38, decode code q.1 = .ok q.2
  exact List.forall_mem_append.mpr ⟨mo_Zl_37, mp_Zl_38⟩
theorem mp_Zl_36 : ∀ q ∈ tb_Zt_36, decode code q.1 = .ok q.2 := by
  show ∀ q ∈ tb_Zl_36 ++ tb_Zt_37, decode code q.1 = .ok q.2
  exact List.forall_mem_append.mpr ⟨mo_Zl_36, mp_Zl_37⟩
theorem mp_Zl_35 : ∀ q ∈ tb_Zt_35, decode code q.1 = .ok q.2 := by
  show ∀ q ∈ tb_Zl_35 ++ tb_Zt_36, decode code q.1 = .ok q.2
  exact List.forall_mem_append.mpr ⟨mo_Zl_35, mp_Zl_36⟩
theorem mp_Zl_34 : ∀ q ∈ tb_Zt_34, decode code q.1 = .ok q.2 := by
  show ∀ q ∈ tb_Zl_34 ++ tb_Zt_35, decode code q.1 = .ok q.2
  exact List.forall_mem_append.mpr ⟨mo_Zl_34, mp_Zl_35⟩
theorem mp_Zl_33 : ∀ q ∈ tb_Zt_33, decode code q.1 = .ok q.2 := by
  show ∀ q ∈ tb_Zl_33 ++ tb_Zt_34, decode code q.1 = .ok q.2
  exact List.forall_mem_append.mpr ⟨mo_Zl_33, mp_Zl_34⟩
theorem mp_Zl_32 : ∀ q ∈ tb_Zt_32, decode code q.1 = .ok q.2 := by
  show ∀ q ∈ tb_Zl_32 ++ tb_Zt_33, decode code q.1 = .ok q.2
  exact List.forall_mem_append.mpr ⟨mo_Zl_32, mp_Zl_33⟩
theorem mp_Zl_31 : ∀ q ∈ tb_Zt_31, decode code q.1 = .ok q.2 := by
  show ∀ q ∈ tb_Zl_31 ++ tb_Zt_32, decode code q.1 = .ok q.2
  exact List.forall_mem_append.mpr ⟨mo_Zl_31, mp_Zl_32⟩
theorem mp_Zl_30 : ∀ q ∈ tb_Zt_30, decode code q.1 = .ok q.2 := by
  show ∀ q ∈ tb_Zl_30 ++ tb_Zt_31, decode code q.1 = .ok q.2
  exact List.forall_mem_append.mpr ⟨mo_Zl_30, mp_Zl_31⟩
theorem mp_Zl_29 : ∀ q ∈ tb_Zt_29, decode code q.1 = .ok q.2 := by
  show ∀ q ∈ tb_Zl_29 ++ tb_Zt_30, decode code q.1 = .ok q.2
  exact List.forall_mem_append.mpr ⟨mo_Zl_29, mp_Zl_30⟩
theorem mp_Zl_28 : ∀ q ∈ tb_Zt_28, decode code q.1 = .ok q.2 := by
  show ∀ q ∈ tb_Zl_28 ++ tb_Zt_29, decode code q.1 = .ok q.2
  exact List.forall_mem_append.mpr ⟨mo_Zl_28, mp_Zl_29⟩
theorem mp_Zl_27 : ∀ q ∈ tb_Zt_27, decode code q.1 = .ok q.2 := by
  show ∀ q ∈ tb_Zl_27 ++ tb_Zt_28, decode code q.1 = .ok q.2
  exact List.forall_mem_append.mpr ⟨mo_Zl_27, mp_Zl_28⟩
theorem mp_Zl_26 : ∀ q ∈ tb_Zt_26, decode code q.1 = .ok q.2 := by
  show ∀ q ∈ tb_Zl_26 ++ tb_Zt_27, decode code q.1 = .ok q.2
  exact List.forall_mem_append.mpr ⟨mo_Zl_26, mp_Zl_27⟩
theorem mp_Zl_25 : ∀ q ∈ tb_Zt_25, decode code q.1 = .ok q.2 := by
  show ∀ q ∈ tb_Zl_25 ++ tb_Zt_26, decode code q.1 = .ok q.2
  exact List.forall_mem_append.mpr ⟨mo_Zl_25, mp_Zl_26⟩
theorem mp_Zl_24 : ∀ q ∈ tb_Zt_24, decode code q.1 = .ok q.2 := by
  show ∀ q ∈ tb_Zl_24 ++ tb_Zt_25, decode code q.1 = .ok q.2
  exact List.forall_mem_append.mpr ⟨mo_Zl_24, mp_Zl_25⟩
theorem mp_Zl_23 : ∀ q ∈ tb_Zt_23, decode code q.1 = .ok q.2 := by
  show ∀ q ∈ tb_Zl_23 ++ tb_Zt_24, decode code q.1 = .ok q.2
  exact List.forall_mem_append.mpr ⟨mo_Zl_23, mp_Zl_24⟩
theorem mp_Zl_22 : ∀ q ∈ tb_Zt_22, decode code q.1 = .ok q.2 := by
  show ∀ q ∈ tb_Zl_22 ++ tb_Zt_23, decode code q.1 = .ok q.2
  exact List.forall_mem_append.mpr ⟨mo_Zl_22, mp_Zl_23⟩
theorem mp_Zl_21 : ∀ q ∈ tb_Zt_21, decode code q.1 = .ok q.2 := by
  show ∀ q ∈ tb_Zl_21 ++ tb_Zt_22, decode code q.1 = .ok q.2
  exact List.forall_mem_append.mpr ⟨mo_Zl_21, mp_Zl_22⟩
theorem mp_Zl_20 : ∀ q ∈ tb_Zt_20, decode code q.1 = .ok q.2 := by
  show ∀ q ∈ tb_Zl_20 ++ tb_Zt_21, decode code q.1 = .ok q.2
  exact List.forall_mem_append.mpr ⟨mo_Zl_20, mp_Zl_21⟩
theorem mp_Zl_19 : ∀ q ∈ tb_Zt_19, decode code q.1 = .ok q.2 := by
  show ∀ q ∈ tb_Zl_19 ++ tb_Zt_20, decode code q.1 = .ok q.2
  exact List.forall_mem_append.mpr ⟨mo_Zl_19, mp_Zl_20⟩
theorem mp_Zl_18 : ∀ q ∈ tb_Zt_18, decode code q.1 = .ok q.2 := by
  show ∀ q ∈ tb_Zl_18 ++ tb_Zt_19, decode code q.1 = .ok q.2
  exact List.forall_mem_append.mpr ⟨mo_Zl_18, mp_Zl_19⟩
theorem mp_Zl_17 : ∀ q ∈ tb_Zt_17, decode code q.1 = .ok q.2 := by
  show ∀ q ∈ tb_Zl_17 ++ tb_Zt_18, decode code q.1 = .ok q.2
  exact List.forall_mem_append.mpr ⟨mo_Zl_17, mp_Zl_18⟩
theorem mp_Zl_16 : ∀ q ∈ tb_Zt_16, decode code q.1 = .ok q.2 := by
  show ∀ q ∈ tb_Zl_16 ++ tb_Zt_17, decode code q.1 = .ok q.2
  exact List.forall_mem_append.mpr ⟨mo_Zl_16, mp_Zl_17⟩
theorem mp_Zl_15 : ∀ q ∈ tb_Zt_15, decode code q.1 = .ok q.2 := by
  show ∀ q ∈ tb_Zl_15 ++ tb_Zt_16, decode code q.1 = .ok q.2
  exact List.forall_mem_append.mpr ⟨mo_Zl_15, mp_Zl_16⟩
theorem mp_Zl_14 : ∀ q ∈ tb_Zt_14, decode code q.1 = .ok q.2 := by
  show ∀ q ∈ tb_Zl_14 ++ tb_Zt_15, decode code q.1 = .ok q.2
  exact List.forall_mem_append.mpr ⟨mo_Zl_14, mp_Zl_15⟩
theorem mp_Zl_13 : ∀ q ∈ tb_Zt_13, decode code q.1 = .ok q.2 := by
  show ∀ q ∈ tb_Zl_13 ++ tb_Zt_14, decode code q.1 = .ok q.2
  exact List.forall_mem_append.mpr ⟨mo_Zl_13, mp_Zl_14⟩
theorem mp_Zl_12 : ∀ q ∈ tb_Zt_12, decode code q.1 = .ok q.2 := by
  show ∀ q ∈ tb_Zl_12 ++ tb_Zt_13, decode code q.1 = .ok q.2
  exact List.forall_mem_append.mpr ⟨mo_Zl_12, mp_Zl_13⟩
theorem mp_Zl_11 : ∀ q ∈ tb_Zt_11, decode code q.1 = .ok q.2 := by
  show ∀ q ∈ tb_Zl_11 ++ tb_Zt_12, decode code q.1 = .ok q.2
  exact List.forall_mem_append.mpr ⟨mo_Zl_11, mp_Zl_12⟩
theorem mp_Zl_10 : ∀ q ∈ tb_Zt_10, decode code q.1 = .ok q.2 := by
  show ∀ q ∈ tb_Zl_10 ++ tb_Zt_11, decode code q.1 = .ok q.2
  exact List.forall_mem_append.mpr ⟨mo_Zl_10, mp_Zl_11⟩
theorem mp_Zl_9 : ∀ q ∈ tb_Zt_9, decode code q.1 = .ok q.2 := by
  show ∀ q ∈ tb_Zl_9 ++ tb_Zt_10, decode code q.1 = .ok q.2
  exact List.forall_mem_append.mpr ⟨mo_Zl_9, mp_Zl_10⟩
theorem mp_Zl_8 : ∀ q ∈ tb_Zt_8, decode code q.1 = .ok q.2 := by
  show ∀ q ∈ tb_Zl_8 ++ tb_Zt_9, decode code q.1 = .ok q.2
  exact List.forall_mem_append.mpr ⟨mo_Zl_8, mp_Zl_9⟩
theorem mp_Zl_7 : ∀ q ∈ tb_Zt_7, decode code q.1 = .ok q.2 := by
  show ∀ q ∈ tb_Zl_7 ++ tb_Zt_8, decode code q.1 = .ok q.2
  exact List.forall_mem_append.mpr ⟨mo_Zl_7, mp_Zl_8⟩
theorem mp_Zl_6 : ∀ q ∈ tb_Zt_6, decode code q.1 = .ok q.2 := by
  show ∀ q ∈ tb_Zl_6 ++ tb_Zt_7, decode code q.1 = .ok q.2
  exact List.forall_mem_append.mpr ⟨mo_Zl_6, mp_Zl_7⟩
theorem mp_Zl_5 : ∀ q ∈ tb_Zt_5, decode code q.1 = .ok q.2 := by
  show ∀ q ∈ tb_Zl_5 ++ tb_Zt_6, decode code q.1 = .ok q.2
  exact List.forall_mem_append.mpr ⟨mo_Zl_5, mp_Zl_6⟩
theorem mp_Zl_4 : ∀ q ∈ tb_Zt_4, decode code q.1 = .ok q.2 := by
  show ∀ q ∈ tb_Zl_4 ++ tb_Zt_5, decode code q.1 = .ok q.2
  exact List.forall_mem_append.mpr ⟨mo_Zl_4, mp_Zl_5⟩
theorem mp_Zl_3 : ∀ q ∈ tb_Zt_3, decode code q.1 = .ok q.2 := by
  show ∀ q ∈ tb_Zl_3 ++ tb_Zt_4, decode code q.1 = .ok q.2
  exact List.forall_mem_append.mpr ⟨mo_Zl_3, mp_Zl_4⟩
theorem mp_Zl_2 : ∀ q ∈ tb_Zt_2, decode code q.1 = .ok q.2 := by
  show ∀ q ∈ tb_Zl_2 ++ tb_Zt_3, decode code q.1 = .ok q.2
  exact List.forall_mem_append.mpr ⟨mo_Zl_2, mp_Zl_3⟩
theorem mp_Zl_1 : ∀ q ∈ tb_Zt_1, decode code q.1 = .ok q.2 := by
  show ∀ q ∈ tb_Zl_1 ++ tb_Zt_2, decode code q.1 = .ok q.2
  exact List.forall_mem_append.mpr ⟨mo_Zl_1, mp_Zl_2⟩
theorem mp_Zl_0 : ∀ q ∈ tb_Zt_0, decode code q.1 = .ok q.2 := by
  show ∀ q ∈ tb_Zl_0 ++ tb_Zt_1, decode code q.1 = .ok q.2
  exact List.forall_mem_append.mpr ⟨mo_Zl_0, mp_Zl_1⟩
theorem mo_Z_law : mi_ok mi_Z_law := mp_Zl_0
theorem ty_0 {q : Nat × Instr × Nat} (i : Nat) (h : tb_Zt_0[i]? = some q) : (mi_tb mi_Z_law)[0 + i]? = some q := by
  rw [Nat.zero_add]
  exact h
theorem ty_1 {q : Nat × Instr × Nat} (i : Nat) (h : tb_Zt_1[i]? = some q) : (mi_tb mi_Z_law)[40 + i]? = some q := by
  have e := ty_0 (40 + i) (q := q) (by
    show (tb_Zl_0 ++ tb_Zt_1)[40 + i]? = some q
    rw [List.getElem?_append_right (Nat.le_add_right 40 i)]
    show tb_Zt_1[40 + i - 40]? = some q
    rw [Nat.add_sub_cancel_left]
    exact h)
  rw [← Nat.add_assoc] at e
  exact e
theorem ty_2 {q : Nat × Instr × Nat} (i : Nat) (h : tb_Zt_2[i]? = some q) : (mi_tb mi_Z_law)[80 + i]? = some q := by
  have e := ty_1 (40 + i) (q := q) (by
    show (tb_Zl_1 ++ tb_Zt_2)[40 + i]? = some q
    rw [List.getElem?_append_right (Nat.le_add_right 40 i)]
    show tb_Zt_2[40 + i - 40]? = some q
    rw [Nat.add_sub_cancel_left]
    exact h)
  rw [← Nat.add_assoc] at e
  exact e
theorem ty_3 {q : Nat × Instr × Nat} (i : Nat) (h : tb_Zt_3[i]? = some q) : (mi_tb mi_Z_law)[120 + i]? = some q := by
  have e := ty_2 (40 + i) (q := q) (by
    show (tb_Zl_2 ++ tb_Zt_3)[40 + i]? = some q
    rw [List.getElem?_append_right (Nat.le_add_right 40 i)]
    show tb_Zt_3[40 + i - 40]? = some q
    rw [Nat.add_sub_cancel_left]
    exact h)
  rw [← Nat.add_assoc] at e
  exact e
theorem ty_4 {q : Nat × Instr × Nat} (i : Nat) (h : tb_Zt_4[i]? = some q) : (mi_tb mi_Z_law)[160 + i]? = some q := by
  have e := ty_3 (40 + i) (q := q) (by
    show (tb_Zl_3 ++ tb_Zt_4)[40 + i]? = some q
    rw [List.getElem?_append_right (Nat.le_add_right 40 i)]
    show tb_Zt_4[40 + i - 40]? = some q
    rw [Nat.add_sub_cancel_left]
    exact h)
  rw [← Nat.add_assoc] at e
  exact e
theorem ty_5 {q : Nat × Instr × Nat} (i : Nat) (h : tb_Zt_5[i]? = some q) : (mi_tb mi_Z_law)[200 + i]? = some q := by
  have e := ty_4 (40 + i) (q := q) (by
    show (tb_Zl_4 ++ tb_Zt_5)[40 + i]? = some q
    rw [List.getElem?_append_right (Nat.le_add_right 40 i)]
    show tb_Zt_5[40 + i - 40]? = some q
    rw [Nat.add_sub_cancel_left]
    exact h)
  rw [← Nat.add_assoc] at e
  exact e
theorem ty_6 {q : Nat × Instr × Nat} (i : Nat) (h : tb_Zt_6[i]? = some q) : (mi_tb mi_Z_law)[240 + i]? = some q := by
  have e := ty_5 (40 + i) (q := q) (by
    show (tb_Zl_5 ++ tb_Zt_6)[40 + i]? = some q
    rw [List.getElem?_append_right (Nat.le_add_right 40 i)]
    show tb_Zt_6[40 + i - 40]? = some q
    rw [Nat.add_sub_cancel_left]
    exact h)
  rw [← Nat.add_assoc] at e
  exact e
theorem ty_7 {q : Nat × Instr × Nat} (i : Nat) (h : tb_Zt_7[i]? = some q) : (mi_tb mi_Z_law)[280 + i]? = some q := by
  have e := ty_6 (40 + i) (q := q) (by
    show (tb_Zl_6 ++ tb_Zt_7)[40 + i]? = some q
    rw [List.getElem?_append_right (Nat.le_add_right 40 i)]
    show tb_Zt_7[40 + i - 40]? = some q
    rw [Nat.add_sub_cancel_left]
    exact h)
  rw [← Nat.add_assoc] at e
  exact e
theorem ty_8 {q : Nat × Instr × Nat} (i : Nat) (h : tb_Zt_8[i]? = some q) : (mi_tb mi_Z_law)[320 + i]? = some q := by
  have e := ty_7 (40 + i) (q := q) (by
    show (tb_Zl_7 ++ tb_Zt_8)[40 + i]? = some q
    rw [List.getElem?_append_right (Nat.le_add_right 40 i)]
    show tb_Zt_8[40 + i - 40]? = some q
    rw [Nat.add_sub_cancel_left]
    exact h)
  rw [← Nat.add_assoc] at e
  exact e
theorem ty_9 {q : Nat × Instr × Nat} (i : Nat) (h : tb_Zt_9[i]? = some q) : (mi_tb mi_Z_law)[360 + i]? = some q := by
  have e := ty_8 (40 + i) (q := q) (by
    show (tb_Zl_8 ++ tb_Zt_9)[40 + i]? = some q
    rw [List.getElem?_append_right (Nat.le_add_right 40 i)]
    show tb_Zt_9[40 + i - 40]? = some q
    rw [Nat.add_sub_cancel_left]
    exact h)
  rw [← Nat.add_assoc] at e
  exact e
theorem ty_10 {q : Nat × Instr × Nat} (i : Nat) (h : tb_Zt_10[i]? = some q) : (mi_tb mi_Z_law)[400 + i]? = some q := by
  have e := ty_9 (40 + i) (q := q) (by
    show (tb_Zl_9 ++ tb_Zt_10)[40 + i]? = some q
    rw [List.getElem?_append_right (Nat.le_add_right 40 i)]
    show tb_Zt_10[40 + i - 40]? = some q
    rw [Nat.add_sub_cancel_left]
    exact h)
  rw [← Nat.add_assoc] at e
  exact e
theorem ty_11 {q : Nat × Instr × Nat} (i : Nat) (h : tb_Zt_11[i]? = some q) : (mi_tb mi_Z_law)[440 + i]? = some q := by
  have e := ty_10 (40 + i) (q := q) (by
    show (tb_Zl_10 ++ tb_Zt_11)[40 + i]? = some q
    rw [List.getElem?_append_right (Nat.le_add_right 40 i)]
    show tb_Zt_11[40 + i - 40]? = some q
    rw [Nat.add_sub_cancel_left]
    exact h)
  rw [← Nat.add_assoc] at e
  exact e
theorem ty_12 {q : Nat × Instr × Nat} (i : Nat) (h : tb_Zt_12[i]? = some q) : (mi_tb mi_Z_law)[480 + i]? = some q := by
  have e := ty_11 (40 + i) (q := q) (by
    show (tb_Zl_11 ++ tb_Zt_12)[40 + i]? = some q
    rw [List.getElem?_append_right (Nat.le_add_right 40 i)]
    show tb_Zt_12[40 + i - 40]? = some q
    rw [Nat.add_sub_cancel_left]
    exact h)
  rw [← Nat.add_assoc] at e
  exact e
theorem ty_13 {q : Nat × Instr × Nat} (i : Nat) (h : tb_Zt_13[i]? = some q) : (mi_tb mi_Z_law)[520 + i]? = some q := by
  have e := ty_12 (40 + i) (q := q) (by
    show (tb_Zl_12 ++ tb_Zt_13)[40 + i]? = some q
    rw [List.getElem?_append_right (Nat.le_add_right 40 i)]
    show tb_Zt_13[40 + i - 40]? = some q
    rw [Nat.add_sub_cancel_left]
    exact h)
  rw [← Nat.add_assoc] at e
  exact e
theorem ty_14 {q : Nat × Instr × Nat} (i : Nat) (h : tb_Zt_14[i]? = some q) : (mi_tb mi_Z_law)[560 + i]? = some q := by
  have e := ty_13 (40 + i) (q := q) (by
    show (tb_Zl_13 ++ tb_Zt_14)[40 + i]? = some q
    rw [List.getElem?_append_right (Nat.le_add_right 40 i)]
    show tb_Zt_14[40 + i - 40]? = some q
    rw [Nat.add_sub_cancel_left]
    exact h)
  rw [← Nat.add_assoc] at e
  exact e
theorem ty_15 {q : Nat × Instr × Nat} (i : Nat) (h : tb_Zt_15[i]? = some q) : (mi_tb mi_Z_law)[600 + i]? = some q := by
  have e := ty_14 (40 + i) (q := q) (by
    show (tb_Zl_14 ++ tb_Zt_15)[40 + i]? = some q
    rw [List.getElem?_append_right (Nat.le_add_right 40 i)]
    show tb_Zt_15[40 + i - 40]? = some q
    rw [Nat.add_sub_cancel_left]
    exact h)
  rw [← Nat.add_assoc] at e
  exact e
theorem ty_16 {q : Nat × Instr × Nat} (i : Nat) (h : tb_Zt_16[i]? = some q) : (mi_tb mi_Z_law)[640 + i]? = some q := by
  have e := ty_15 (40 + i) (q := q) (by
    show (tb_Zl_15 ++ tb_Zt_16)[40 + i]? = some q
    rw [List.getElem?_append_right (Nat.le_add_right 40 i)]
    show tb_Zt_16[40 + i - 40]? = some q
    rw [Nat.add_sub_cancel_left]
    exact h)
  rw [← Nat.add_assoc] at e
  exact e
theorem ty_17 {q : Nat × Instr × Nat} (i : Nat) (h : tb_Zt_17[i]? = some q) : (mi_tb mi_Z_law)[680 + i]? = some q := by
  have e := ty_16 (40 + i) (q := q) (by
    show (tb_Zl_16 ++ tb_Zt_17)[40 + i]? = some q
    rw [List.getElem?_append_right (Nat.le_add_right 40 i)]
    show tb_Zt_17[40 + i - 40]? = some q
    rw [Nat.add_sub_cancel_left]
    exact h)
  rw [← Nat.add_assoc] at e
  exact e
theorem ty_18 {q : Nat × Instr × Nat} (i : Nat) (h : tb_Zt_18[i]? = some q) : (mi_tb mi_Z_law)[720 + i]? = some q := by
  have e := ty_17 (40 + i) (q := q) (by
    show (tb_Zl_17 ++ tb_Zt_18)[40 + i]? = some q
    rw [List.getElem?_append_right (Nat.le_add_right 40 i)]
    show tb_Zt_18[40 + i - 40]? = some q
    rw [Nat.add_sub_cancel_left]
    exact h)
  rw [← Nat.add_assoc] at e
  exact e
theorem ty_19 {q : Nat × Instr × Nat} (i : Nat) (h : tb_Zt_19[i]? = some q) : (mi_tb mi_Z_law)[760 + i]? = some q := by
  have e := ty_18 (40 + i) (q := q) (by
    show (tb_Zl_18 ++ tb_Zt_19)[40 + i]? = some q
    rw [List.getElem?_append_right (Nat.le_add_right 40 i)]
    show tb_Zt_19[40 + i - 40]? = some q
    rw [Nat.add_sub_cancel_left]
    exact h)
  rw [← Nat.add_assoc] at e
  exact e
theorem ty_20 {q : Nat × Instr × Nat} (i : Nat) (h : tb_Zt_20[i]? = some q) : (mi_tb mi_Z_law)[800 + i]? = some q := by
  have e := ty_19 (40 + i) (q := q) (by
    show (tb_Zl_19 ++ tb_Zt_20)[40 + i]? = some q
    rw [List.getElem?_append_right (Nat.le_add_right 40 i)]
    show tb_Zt_20[40 + i - 40]? = some q
    rw [Nat.add_sub_cancel_left]
    exact h)
  rw [← Nat.add_assoc] at e
  exact e
theorem ty_21 {q : Nat × Instr × Nat} (i : Nat) (h : tb_Zt_21[i]? = some q) : (mi_tb mi_Z_law)[840 + i]? = some q := by
  have e := ty_20 (40 + i) (q := q) (by
    show (tb_Zl_20 ++ tb_Zt_21)[40 + i]? = some q
    rw [List.getElem?_append_right (Nat.le_add_right 40 i)]
    show tb_Zt_21[40 + i - 40]? = some q
    rw [Nat.add_sub_cancel_left]
    exact h)
  rw [← Nat.add_assoc] at e
  exact e
theorem ty_22 {q : Nat × Instr × Nat} (i : Nat) (h : tb_Zt_22[i]? = some q) : (mi_tb mi_Z_law)[880 + i]? = some q := by
  have e := ty_21 (40 + i) (q := q) (by
    show (tb_Zl_21 ++ tb_Zt_22)[40 + i]? = some q
    rw [List.getElem?_append_right (Nat.le_add_right 40 i)]
    show tb_Zt_22[40 + i - 40]? = some q
    rw [Nat.add_sub_cancel_left]
    exact h)
  rw [← Nat.add_assoc] at e
  exact e
theorem ty_23 {q : Nat × Instr × Nat} (i : Nat) (h : tb_Zt_23[i]? = some q) : (mi_tb mi_Z_law)[920 + i]? = some q := by
  have e := ty_22 (40 + i) (q := q) (by
    show (tb_Zl_22 ++ tb_Zt_23)[40 + i]? = some q
    rw [List.getElem?_append_right (Nat.le_add_right 40 i)]
    show tb_Zt_23[40 + i - 40]? = some q
    rw [Nat.add_sub_cancel_left]
    exact h)
  rw [← Nat.add_assoc] at e
  exact e
theorem ty_24 {q : Nat × Instr × Nat} (i : Nat) (h : tb_Zt_24[i]? = some q) : (mi_tb mi_Z_law)[960 + i]? = some q := by
  have e := ty_23 (40 + i) (q := q) (by
    show (tb_Zl_23 ++ tb_Zt_24)[40 + i]? = some q
    rw [List.getElem?_append_right (Nat.le_add_right 40 i)]
    show tb_Zt_24[40 + i - 40]? = some q
    rw [Nat.add_sub_cancel_left]
    exact h)
  rw [← Nat.add_assoc] at e
  exact e
theorem ty_25 {q : Nat × Instr × Nat} (i : Nat) (h : tb_Zt_25[i]? = some q) : (mi_tb mi_Z_law)[1000 + i]? = some q := by
  have e := ty_24 (40 + i) (q := q) (by
    show (tb_Zl_24 ++ tb_Zt_25)[40 + i]? = some q
    rw [List.getElem?_append_right (Nat.le_add_right 40 i)]
    show tb_Zt_25[40 + i - 40]? = some q
    rw [Nat.add_sub_cancel_left]
    exact h)
  rw [← Nat.add_assoc] at e
  exact e
theorem ty_26 {q : Nat × Instr × Nat} (i : Nat) (h : tb_Zt_26[i]? = some q) : (mi_tb mi_Z_law)[1040 + i]? = some q := by
  have e := ty_25 (40 + i) (q := q) (by
    show (tb_Zl_25 ++ tb_Zt_26)[40 + i]? = some q
    rw [List.getElem?_append_right (Nat.le_add_right 40 i)]
    show tb_Zt_26[40 + i - 40]? = some q
    rw [Nat.add_sub_cancel_left]
    exact h)
  rw [← Nat.add_assoc] at e
  exact e
theorem ty_27 {q : Nat × Instr × Nat} (i : Nat) (h : tb_Zt_27[i]? = some q) : (mi_tb mi_Z_law)[1080 + i]? = some q := by
  have e := ty_26 (40 + i) (q := q) (by
    show (tb_Zl_26 ++ tb_Zt_27)[40 + i]? = some q
    rw [List.getElem?_append_right (Nat.le_add_right 40 i)]
    show tb_Zt_27[40 + i - 40]? = some q
    rw [Nat.add_sub_cancel_left]
    exact h)
  rw [← Nat.add_assoc] at e
  exact e
theorem ty_28 {q : Nat × Instr × Nat} (i : Nat) (h : tb_Zt_28[i]? = some q) : (mi_tb mi_Z_law)[1120 + i]? = some q := by
  have e := ty_27 (40 + i) (q := q) (by
    show (tb_Zl_27 ++ tb_Zt_28)[40 + i]? = some q
    rw [List.getElem?_append_right (Nat.le_add_right 40 i)]
    show tb_Zt_28[40 + i - 40]? = some q
    rw [Nat.add_sub_cancel_left]
    exact h)
  rw [← Nat.add_assoc] at e
  exact e
theorem ty_29 {q : Nat × Instr × Nat} (i : Nat) (h : tb_Zt_29[i]? = some q) : (mi_tb mi_Z_law)[1160 + i]? = some q := by
  have e := ty_28 (40 + i) (q := q) (by
    show (tb_Zl_28 ++ tb_Zt_29)[40 + i]? = some q
    rw [List.getElem?_append_right (Nat.le_add_right 40 i)]
    show tb_Zt_29[40 + i - 40]? = some q
    rw [Nat.add_sub_cancel_left]
    exact h)
  rw [← Nat.add_assoc] at e
  exact e
theorem ty_30 {q : Nat × Instr × Nat} (i : Nat) (h : tb_Zt_30[i]? = some q) : (mi_tb mi_Z_law)[1200 + i]? = some q := by
  have e := ty_29 (40 + i) (q := q) (by
    show (tb_Zl_29 ++ tb_Zt_30)[40 + i]? = some q
    rw [List.getElem?_append_right (Nat.le_add_right 40 i)]
    show tb_Zt_30[40 + i - 40]? = some q
    rw [Nat.add_sub_cancel_left]
    exact h)
  rw [← Nat.add_assoc] at e
  exact e
theorem ty_31 {q : Nat × Instr × Nat} (i : Nat) (h : tb_Zt_31[i]? = some q) : (mi_tb mi_Z_law)[1240 + i]? = some q := by
  have e := ty_30 (40 + i) (q := q) (by
    show (tb_Zl_30 ++ tb_Zt_31)[40 + i]? = some q
    rw [List.getElem?_append_right (Nat.le_add_right 40 i)]
    show tb_Zt_31[40 + i - 40]? = some q
    rw [Nat.add_sub_cancel_left]
    exact h)
  rw [← Nat.add_assoc] at e
  exact e
theorem ty_32 {q : Nat × Instr × Nat} (i : Nat) (h : tb_Zt_32[i]? = some q) : (mi_tb mi_Z_law)[1280 + i]? = some q := by
  have e := ty_31 (40 + i) (q := q) (by
    show (tb_Zl_31 ++ tb_Zt_32)[40 + i]? = some q
    rw [List.getElem?_append_right (Nat.le_add_right 40 i)]
    show tb_Zt_32[40 + i - 40]? = some q
    rw [Nat.add_sub_cancel_left]
    exact h)
  rw [← Nat.add_assoc] at e
  exact e
theorem ty_33 {q : Nat × Instr × Nat} (i : Nat) (h : tb_Zt_33[i]? = some q) : (mi_tb mi_Z_law)[1320 + i]? = some q := by
  have e := ty_32 (40 + i) (q := q) (by
    show (tb_Zl_32 ++ tb_Zt_33)[40 + i]? = some q
    rw [List.getElem?_append_right (Nat.le_add_right 40 i)]
    show tb_Zt_33[40 + i - 40]? = some q
    rw [Nat.add_sub_cancel_left]
    exact h)
  rw [← Nat.add_assoc] at e
  exact e
theorem ty_34 {q : Nat × Instr × Nat} (i : Nat) (h : tb_Zt_34[i]? = some q) : (mi_tb mi_Z_law)[1360 + i]? = some q := by
  have e := ty_33 (40 + i) (q := q) (by
    show (tb_Zl_33 ++ tb_Zt_34)[40 + i]? = some q
    rw [List.getElem?_append_right (Nat.le_add_right 40 i)]
    show tb_Zt_34[40 + i - 40]? = some q
    rw [Nat.add_sub_cancel_left]
    exact h)
  rw [← Nat.add_assoc] at e
  exact e
theorem ty_35 {q : Nat × Instr × Nat} (i : Nat) (h : tb_Zt_35[i]? = some q) : (mi_tb mi_Z_law)[1400 + i]? = some q := by
  have e := ty_34 (40 + i) (q := q) (by
    show (tb_Zl_34 ++ tb_Zt_35)[40 + i]? = some q
    rw [List.getElem?_append_right (Nat.le_add_right 40 i)]
    show tb_Zt_35[40 + i - 40]? = some q
    rw [Nat.add_sub_cancel_left]
    exact h)
  rw [← Nat.add_assoc] at e
  exact e
theorem ty_36 {q : Nat × Instr × Nat} (i : Nat) (h : tb_Zt_36[i]? = some q) : (mi_tb mi_Z_law)[1440 + i]? = some q := by
  have e := ty_35 (40 + i) (q := q) (by
    show (tb_Zl_35 ++ tb_Zt_36)[40 + i]? = some q
    rw [List.getElem?_append_right (Nat.le_add_right 40 i)]
    show tb_Zt_36[40 + i - 40]? = some q
    rw [Nat.add_sub_cancel_left]
    exact h)
  rw [← Nat.add_assoc] at e
  exact e
theorem ty_37 {q : Nat × Instr × Nat} (i : Nat) (h : tb_Zt_37[i]? = some q) : (mi_tb mi_Z_law)[1480 + i]? = some q := by
  have e := ty_36 (40 + i) (q := q) (by
    show (tb_Zl_36 ++ tb_Zt_37)[40 + i]? = some q
    rw [List.getElem?_append_right (Nat.le_add_right 40 i)]
    show tb_Zt_37[40 + i - 40]? = some q
    rw [Nat.add_sub_cancel_left]
    exact h)
  rw [← Nat.add_assoc] at e
  exact e
theorem ty_38 {q : Nat × Instr × Nat} (i : Nat) (h : tb_Zt_38[i]? = some q) : (mi_tb mi_Z_law)[1520 + i]? = some q := by
  have e := ty_37 (40 + i) (q := q) (by
    show (tb_Zl_37 ++ tb_Zt_38)[40 + i]? = some q
    rw [List.getElem?_append_right (Nat.le_add_right 40 i)]
    show tb_Zt_38[40 + i - 40]? = some q
    rw [Nat.add_sub_cancel_left]
    exact h)
  rw [← Nat.add_assoc] at e
  exact e
theorem ty_39 {q : Nat × Instr × Nat} (i : Nat) (h : tb_Zt_39[i]? = some q) : (mi_tb mi_Z_law)[1560 + i]? = some q := by
  have e := ty_38 (40 + i) (q := q) (by
    show (tb_Zl_38 ++ tb_Zt_39)[40 + i]? = some q
    rw [List.getElem?_append_right (Nat.le_add_right 40 i)]
    show tb_Zt_39[40 + i - 40]? = some q
    rw [Nat.add_sub_cancel_left]
    exact h)
  rw [← Nat.add_assoc] at e
  exact e
theorem ty_40 {q : Nat × Instr × Nat} (i : Nat) (h : tb_Zt_40[i]? = some q) : (mi_tb mi_Z_law)[1600 + i]? = some q := by
  have e := ty_39 (40 + i) (q := q) (by
    show (tb_Zl_39 ++ tb_Zt_40)[40 + i]? = some q
    rw [List.getElem?_append_right (Nat.le_add_right 40 i)]
    show tb_Zt_40[40 + i - 40]? = some q
    rw [Nat.add_sub_cancel_left]
    exact h)
  rw [← Nat.add_assoc] at e
  exact e
theorem ty_41 {q : Nat × Instr × Nat} (i : Nat) (h : tb_Zt_41[i]? = some q) : (mi_tb mi_Z_law)[1640 + i]? = some q := by
  have e := ty_40 (40 + i) (q := q) (by
    show (tb_Zl_40 ++ tb_Zt_41)[40 + i]? = some q
    rw [List.getElem?_append_right (Nat.le_add_right 40 i)]
    show tb_Zt_41[40 + i - 40]? = some q
    rw [Nat.add_sub_cancel_left]
    exact h)
  rw [← Nat.add_assoc] at e
  exact e
theorem ty_42 {q : Nat × Instr × Nat} (i : Nat) (h : tb_Zt_42[i]? = some q) : (mi_tb mi_Z_law)[1680 + i]? = some q := by
  have e := ty_41 (40 + i) (q := q) (by
    show (tb_Zl_41 ++ tb_Zt_42)[40 + i]? = some q
    rw [List.getElem?_append_right (Nat.le_add_right 40 i)]
    show tb_Zt_42[40 + i - 40]? = some q
    rw [Nat.add_sub_cancel_left]
    exact h)
  rw [← Nat.add_assoc] at e
  exact e
theorem ty_43 {q : Nat × Instr × Nat} (i : Nat) (h : tb_Zt_43[i]? = some q) : (mi_tb mi_Z_law)[1720 + i]? = some q := by
  have e := ty_42 (40 + i) (q := q) (by
    show (tb_Zl_42 ++ tb_Zt_43)[40 + i]? = some q
    rw [List.getElem?_append_right (Nat.le_add_right 40 i)]
    show tb_Zt_43[40 + i - 40]? = some q
    rw [Nat.add_sub_cancel_left]
    exact h)
  rw [← Nat.add_assoc] at e
  exact e
theorem ty_44 {q : Nat × Instr × Nat} (i : Nat) (h : tb_Zt_44[i]? = some q) : (mi_tb mi_Z_law)[1760 + i]? = some q := by
  have e := ty_43 (40 + i) (q := q) (by
    show (tb_Zl_43 ++ tb_Zt_44)[40 + i]? = some q
    rw [List.getElem?_append_right (Nat.le_add_right 40 i)]
    show tb_Zt_44[40 + i - 40]? = some q
    rw [Nat.add_sub_cancel_left]
    exact h)
  rw [← Nat.add_assoc] at e
  exact e
theorem ty_45 {q : Nat × Instr × Nat} (i : Nat) (h : tb_Zt_45[i]? = some q) : (mi_tb mi_Z_law)[1800 + i]? = some q := by
  have e := ty_44 (40 + i) (q := q) (by
    show (tb_Zl_44 ++ tb_Zt_45)[40 + i]? = some q
    rw [List.getElem?_append_right (Nat.le_add_right 40 i)]
    show tb_Zt_45[40 + i - 40]? = some q
    rw [Nat.add_sub_cancel_left]
    exact h)
  rw [← Nat.add_assoc] at e
  exact e
theorem ty_46 {q : Nat × Instr × Nat} (i : Nat) (h : tb_Zt_46[i]? = some q) : (mi_tb mi_Z_law)[1840 + i]? = some q := by
  have e := ty_45 (40 + i) (q := q) (by
    show (tb_Zl_45 ++ tb_Zt_46)[40 + i]? = some q
    rw [List.getElem?_append_right (Nat.le_add_right 40 i)]
    show tb_Zt_46[40 + i - 40]? = some q
    rw [Nat.add_sub_cancel_left]
    exact h)
  rw [← Nat.add_assoc] at e
  exact e
theorem ty_47 {q : Nat × Instr × Nat} (i : Nat) (h : tb_Zt_47[i]? = some q) : (mi_tb mi_Z_law)[1880 + i]? = some q := by
  have e := ty_46 (40 + i) (q := q) (by
    show (tb_Zl_46 ++ tb_Zt_47)[40 + i]? = some q
    rw [List.getElem?_append_right (Nat.le_add_right 40 i)]
    show tb_Zt_47[40 + i - 40]? = some q
    rw [Nat.add_sub_cancel_left]
    exact h)
  rw [← Nat.add_assoc] at e
  exact e
theorem tz_0 {q : Nat × Instr × Nat} (j : Nat) (h : tb_Zl_0[j]? = some q) : (mi_tb mi_Z_law)[0 + j]? = some q := ty_0 j (by
  show (tb_Zl_0 ++ tb_Zt_1)[j]? = some q
  rw [List.getElem?_append_left (List.getElem?_eq_some_iff.mp h).1]
  exact h)
theorem tz_1 {q : Nat × Instr × Nat} (j : Nat) (h : tb_Zl_1[j]? = some q) : (mi_tb mi_Z_law)[40 + j]? = some q := ty_1 j (by
  show (tb_Zl_1 ++ tb_Zt_2)[j]? = some q
  rw [List.getElem?_append_left (List.getElem?_eq_some_iff.mp h).1]
  exact h)
theorem tz_2 {q : Nat × Instr × Nat} (j : Nat) (h : tb_Zl_2[j]? = some q) : (mi_tb mi_Z_law)[80 + j]? = some q := ty_2 j (by
  show (tb_Zl_2 ++ tb_Zt_3)[j]? = some q
  rw [List.getElem?_append_left (List.getElem?_eq_some_iff.mp h).1]
  exact h)
theorem tz_3 {q : Nat × Instr × Nat} (j : Nat) (h : tb_Zl_3[j]? = some q) : (mi_tb mi_Z_law)[120 + j]? = some q := ty_3 j (by
  show (tb_Zl_3 ++ tb_Zt_4)[j]? = some q
  rw [List.getElem?_append_left (List.getElem?_eq_some_iff.mp h).1]
  exact h)
theorem tz_4 {q : Nat × Instr × Nat} (j : Nat) (h : tb_Zl_4[j]? = some q) : (mi_tb mi_Z_law)[160 + j]? = some q := ty_4 j (by
  show (tb_Zl_4 ++ tb_Zt_5)[j]? = some q
  rw [List.getElem?_append_left (List.getElem?_eq_some_iff.mp h).1]
  exact h)
theorem tz_5 {q : Nat × Instr × Nat} (j : Nat) (h : tb_Zl_5[j]? = some q) : (mi_tb mi_Z_law)[200 + j]? = some q := ty_5 j (by
  show (tb_Zl_5 ++ tb_Zt_6)[j]? = some q
  rw [List.getElem?_append_left (List.getElem?_eq_some_iff.mp h).1]
  exact h)
theorem tz_6 {q : Nat × Instr × Nat} (j : Nat) (h : tb_Zl_6[j]? = some q) : (mi_tb mi_Z_law)[240 + j]? = some q := ty_6 j (by
  show (tb_Zl_6 ++ tb_Zt_7)[j]? = some q
  rw [List.getElem?_append_left (List.getElem?_eq_some_iff.mp h).1]
  exact h)
theorem tz_7 {q : Nat × Instr × Nat} (j : Nat) (h : tb_Zl_7[j]? = some q) : (mi_tb mi_Z_law)[280 + j]? = some q := ty_7 j (by
  show (tb_Zl_7 ++ tb_Zt_8)[j]? = some q
  rw [List.getElem?_append_left (List.getElem?_eq_some_iff.mp h).1]
  exact h)
theorem tz_8 {q : Nat × Instr × Nat} (j : Nat) (h : tb_Zl_8[j]? = some q) : (mi_tb mi_Z_law)[320 + j]? = some q := ty_8 j (by
  show (tb_Zl_8 ++ tb_Zt_9)[j]? = some q
  rw [List.getElem?_append_left (List.getElem?_eq_some_iff.mp h).1]
  exact h)
theorem tz_9 {q : Nat × Instr × Nat} (j : Nat) (h : tb_Zl_9[j]? = some q) : (mi_tb mi_Z_law)[360 + j]? = some q := ty_9 j (by
  show (tb_Zl_9 ++ tb_Zt_10)[j]? = some q
  rw [List.getElem?_append_left (List.getElem?_eq_some_iff.mp h).1]
  exact h)
theorem tz_10 {q : Nat × Instr × Nat} (j : Nat) (h : tb_Zl_10[j]? = some q) : (mi_tb mi_Z_law)[400 + j]? = some q := ty_10 j (by
  show (tb_Zl_10 ++ tb_Zt_11)[j]? = some q
  rw [List.getElem?_append_left (List.getElem?_eq_some_iff.mp h).1]
  exact h)
theorem tz_11 {q : Nat × Instr × Nat} (j : Nat) (h : tb_Zl_11[j]? = some q) : (mi_tb mi_Z_law)[440 + j]? = some q := ty_11 j (by
  show (tb_Zl_11 ++ tb_Zt_12)[j]? = some q
  rw [List.getElem?_append_left (List.getElem?_eq_some_iff.mp h).1]
  exact h)
theorem tz_12 {q : Nat × Instr × Nat} (j : Nat) (h : tb_Zl_12[j]? = some q) : (mi_tb mi_Z_law)[480 + j]? = some q := ty_12 j (by
  show (tb_Zl_12 ++ tb_Zt_13)[j]? = some q
  rw [List.getElem?_append_left (List.getElem?_eq_some_iff.mp h).1]
  exact h)
theorem tz_13 {q : Nat × Instr × Nat} (j : Nat) (h : tb_Zl_13[j]? = some q) : (mi_tb mi_Z_law)[520 + j]? = some q := ty_13 j (by
  show (tb_Zl_13 ++ tb_Zt_14)[j]? = some q
  rw [List.getElem?_append_left (List.getElem?_eq_some_iff.mp h).1]
  exact h)
theorem tz_14 {q : Nat × Instr × Nat} (j : Nat) (h : tb_Zl_14[j]? = some q) : (mi_tb mi_Z_law)[560 + j]? = some q := ty_14 j (by
  show (tb_Zl_14 ++ tb_Zt_15)[j]? = some q
  rw [List.getElem?_append_left (List.getElem?_eq_some_iff.mp h).1]
  exact h)
theorem tz_15 {q : Nat × Instr × Nat} (j : Nat) (h : tb_Zl_15[j]? = some q) : (mi_tb mi_Z_law)[600 + j]? = some q := ty_15 j (by
  show (tb_Zl_15 ++ tb_Zt_16)[j]? = some q
  rw [List.getElem?_append_left (List.getElem?_eq_some_iff.mp h).1]
  exact h)
theorem tz_16 {q : Nat × Instr × Nat} (j : Nat) (h : tb_Zl_16[j]? = some q) : (mi_tb mi_Z_law)[640 + j]? = some q := ty_16 j (by
  show (tb_Zl_16 ++ tb_Zt_17)[j]? = some q
  rw [List.getElem?_append_left (List.getElem?_eq_some_iff.mp h).1]
  exact h)
theorem tz_17 {q : Nat × Instr × Nat} (j : Nat) (h : tb_Zl_17[j]? = some q) : (mi_tb mi_Z_law)[680 + j]? = some q := ty_17 j (by
  show (tb_Zl_17 ++ tb_Zt_18)[j]? = some q
  rw [List.getElem?_append_left (List.getElem?_eq_some_iff.mp h).1]
  exact h)
theorem tz_18 {q : Nat × Instr × Nat} (j : Nat) (h : tb_Zl_18[j]? = some q) : (mi_tb mi_Z_law)[720 + j]? = some q := ty_18 j (by
  show (tb_Zl_18 ++ tb_Zt_19)[j]? = some q
  rw [List.getElem?_append_left (List.getElem?_eq_some_iff.mp h).1]
  exact h)
theorem tz_19 {q : Nat × Instr × Nat} (j : Nat) (h : tb_Zl_19[j]? = some q) : (mi_tb mi_Z_law)[760 + j]? = some q := ty_19 j (by
  show (tb_Zl_19 ++ tb_Zt_20)[j]? = some q
  rw [List.getElem?_append_left (List.getElem?_eq_some_iff.mp h).1]
  exact h)
theorem tz_20 {q : Nat × Instr × Nat} (j : Nat) (h : tb_Zl_20[j]? = some q) : (mi_tb mi_Z_law)[800 + j]? = some q := ty_20 j (by
  show (tb_Zl_20 ++ tb_Zt_21)[j]? = some q
  rw [List.getElem?_append_left (List.getElem?_eq_some_iff.mp h).1]
  exact h)
theorem tz_21 {q : Nat × Instr × Nat} (j : Nat) (h : tb_Zl_21[j]? = some q) : (mi_tb mi_Z_law)[840 + j]? = some q := ty_21 j (by
  show (tb_Zl_21 ++ tb_Zt_22)[j]? = some q
  rw [List.getElem?_append_left (List.getElem?_eq_some_iff.mp h).1]
  exact h)
theorem tz_22 {q : Nat × Instr × Nat} (j : Nat) (h : tb_Zl_22[j]? = some q) : (mi_tb mi_Z_law)[880 + j]? = some q := ty_22 j (by
  show (tb_Zl_22 ++ tb_Zt_23)[j]? = some q
  rw [List.getElem?_append_left (List.getElem?_eq_some_iff.mp h).1]
  exact h)
theorem tz_23 {q : Nat × Instr × Nat} (j : Nat) (h : tb_Zl_23[j]? = some q) : (mi_tb mi_Z_law)[920 + j]? = some q := ty_23 j (by
  show (tb_Zl_23 ++ tb_Zt_24)[j]? = some q
  rw [List.getElem?_append_left (List.getElem?_eq_some_iff.mp h).1]
  exact h)
theorem tz_24 {q : Nat × Instr × Nat} (j : Nat) (h : tb_Zl_24[j]? = some q) : (mi_tb mi_Z_law)[960 + j]? = some q := ty_24 j (by
  show (tb_Zl_24 ++ tb_Zt_25)[j]? = some q
  rw [List.getElem?_append_left (List.getElem?_eq_some_iff.mp h).1]
  exact h)
theorem tz_25 {q : Nat × Instr × Nat} (j : Nat) (h : tb_Zl_25[j]? = some q) : (mi_tb mi_Z_law)[1000 + j]? = some q := ty_25 j (by
  show (tb_Zl_25 ++ tb_Zt_26)[j]? = some q
  rw [List.getElem?_append_left (List.getElem?_eq_some_iff.mp h).1]
  exact h)
theorem tz_26 {q : Nat × Instr × Nat} (j : Nat) (h : tb_Zl_26[j]? = some q) : (mi_tb mi_Z_law)[1040 + j]? = some q := ty_26 j (by
  show (tb_Zl_26 ++ tb_Zt_27)[j]? = some q
  rw [List.getElem?_append_left (List.getElem?_eq_some_iff.mp h).1]
  exact h)
theorem tz_27 {q : Nat × Instr × Nat} (j : Nat) (h : tb_Zl_27[j]? = some q) : (mi_tb mi_Z_law)[1080 + j]? = some q := ty_27 j (by
  show (tb_Zl_27 ++ tb_Zt_28)[j]? = some q
  rw [List.getElem?_append_left (List.getElem?_eq_some_iff.mp h).1]
  exact h)
theorem tz_28 {q : Nat × Instr × Nat} (j : Nat) (h : tb_Zl_28[j]? = some q) : (mi_tb mi_Z_law)[1120 + j]? = some q := ty_28 j (by
  show (tb_Zl_28 ++ tb_Zt_29)[j]? = some q
  rw [List.getElem?_append_left (List.getElem?_eq_some_iff.mp h).1]
  exact h)
theorem tz_29 {q : Nat × Instr × Nat} (j : Nat) (h : tb_Zl_29[j]? = some q) : (mi_tb mi_Z_law)[1160 + j]? = some q := ty_29 j (by
  show (tb_Zl_29 ++ tb_Zt_30)[j]? = some q
  rw [List.getElem?_append_left (List.getElem?_eq_some_iff.mp h).1]
  exact h)
theorem tz_30 {q : Nat × Instr × Nat} (j : Nat) (h : tb_Zl_30[j]? = some q) : (mi_tb mi_Z_law)[1200 + j]? = some q := ty_30 j (by
  show (tb_Zl_30 ++ tb_Zt_31)[j]? = some q
  rw [List.getElem?_append_left (List.getElem?_eq_some_iff.mp h).1]
  exact h)
theorem tz_31 {q : Nat × Instr × Nat} (j : Nat) (h : tb_Zl_31[j]? = some q) : (mi_tb mi_Z_law)[1240 + j]? = some q := ty_31 j (by
  show (tb_Zl_31 ++ tb_Zt_32)[j]? = some q
  rw [List.getElem?_append_left (List.getElem?_eq_some_iff.mp h).1]
  exact h)
theorem tz_32 {q : Nat × Instr × Nat} (j : Nat) (h : tb_Zl_32[j]? = some q) : (mi_tb mi_Z_law)[1280 + j]? = some q := ty_32 j (by
  show (tb_Zl_32 ++ tb_Zt_33)[j]? = some q
  rw [List.getElem?_append_left (List.getElem?_eq_some_iff.mp h).1]
  exact h)
theorem tz_33 {q : Nat × Instr × Nat} (j : Nat) (h : tb_Zl_33[j]? = some q) : (mi_tb mi_Z_law)[1320 + j]? = some q := ty_33 j (by
  show (tb_Zl_33 ++ tb_Zt_34)[j]? = some q
  rw [List.getElem?_append_left (List.getElem?_eq_some_iff.mp h).1]
  exact h)
theorem tz_34 {q : Nat × Instr × Nat} (j : Nat) (h : tb_Zl_34[j]? = some q) : (mi_tb mi_Z_law)[1360 + j]? = some q := ty_34 j (by
  show (tb_Zl_34 ++ tb_Zt_35)[j]? = some q
  rw [List.getElem?_append_left (List.getElem?_eq_some_iff.mp h).1]
  exact h)
theorem tz_35 {q : Nat × Instr × Nat} (j : Nat) (h : tb_Zl_35[j]? = some q) : (mi_tb mi_Z_law)[1400 + j]? = some q := ty_35 j (by
  show (tb_Zl_35 ++ tb_Zt_36)[j]? = some q
  rw [List.getElem?_append_left (List.getElem?_eq_some_iff.mp h).1]
  exact h)
theorem tz_36 {q : Nat × Instr × Nat} (j : Nat) (h : tb_Zl_36[j]? = some q) : (mi_tb mi_Z_law)[1440 + j]? = some q := ty_36 j (by
  show (tb_Zl_36 ++ tb_Zt_37)[j]? = some q
  rw [List.getElem?_append_left (List.getElem?_eq_some_iff.mp h).1]
  exact h)
theorem tz_37 {q : Nat × Instr × Nat} (j : Nat) (h : tb_Zl_37[j]? = some q) : (mi_tb mi_Z_law)[1480 + j]? = some q := ty_37 j (by
  show (tb_Zl_37 ++ tb_Zt_38)[j]? = some q
  rw [List.getElem?_append_left (List.getElem?_eq_some_iff.mp h).1]
  exact h)
theorem tz_38 {q : Nat × Instr × Nat} (j : Nat) (h : tb_Zl_38[j]? = some q) : (mi_tb mi_Z_law)[1520 + j]? = some q := ty_38 j (by
  show (tb_Zl_38 ++ tb_Zt_39)[j]? = some q
  rw [List.getElem?_append_left (List.getElem?_eq_some_iff.mp h).1]
  exact h)
theorem tz_39 {q : Nat × Instr × Nat} (j : Nat) (h : tb_Zl_39[j]? = some q) : (mi_tb mi_Z_law)[1560 + j]? = some q := ty_39 j (by
  show (tb_Zl_39 ++ tb_Zt_40)[j]? = some q
  rw [List.getElem?_append_left (List.getElem?_eq_some_iff.mp h).1]
  exact h)
theorem tz_40 {q : Nat × Instr × Nat} (j : Nat) (h : tb_Zl_40[j]? = some q) : (mi_tb mi_Z_law)[1600 + j]? = some q := ty_40 j (by
  show (tb_Zl_40 ++ tb_Zt_41)[j]? = some q
  rw [List.getElem?_append_left (List.getElem?_eq_some_iff.mp h).1]
  exact h)
theorem tz_41 {q : Nat × Instr × Nat} (j : Nat) (h : tb_Zl_41[j]? = some q) : (mi_tb mi_Z_law)[1640 + j]? = some q := ty_41 j (by
  show (tb_Zl_41 ++ tb_Zt_42)[j]? = some q
  rw [List.getElem?_append_left (List.getElem?_eq_some_iff.mp h).1]
  exact h)
theorem tz_42 {q : Nat × Instr × Nat} (j : Nat) (h : tb_Zl_42[j]? = some q) : (mi_tb mi_Z_law)[1680 + j]? = some q := ty_42 j (by
  show (tb_Zl_42 ++ tb_Zt_43)[j]? = some q
  rw [List.getElem?_append_left (List.getElem?_eq_some_iff.mp h).1]
  exact h)
theorem tz_43 {q : Nat × Instr × Nat} (j : Nat) (h : tb_Zl_43[j]? = some q) : (mi_tb mi_Z_law)[1720 + j]? = some q := ty_43 j (by
  show (tb_Zl_43 ++ tb_Zt_44)[j]? = some q
  rw [List.getElem?_append_left (List.getElem?_eq_some_iff.mp h).1]
  exact h)
theorem tz_44 {q : Nat × Instr × Nat} (j : Nat) (h : tb_Zl_44[j]? = some q) : (mi_tb mi_Z_law)[1760 + j]? = some q := ty_44 j (by
  show (tb_Zl_44 ++ tb_Zt_45)[j]? = some q
  rw [List.getElem?_append_left (List.getElem?_eq_some_iff.mp h).1]
  exact h)
theorem tz_45 {q : Nat × Instr × Nat} (j : Nat) (h : tb_Zl_45[j]? = some q) : (mi_tb mi_Z_law)[1800 + j]? = some q := ty_45 j (by
  show (tb_Zl_45 ++ tb_Zt_46)[j]? = some q
  rw [List.getElem?_append_left (List.getElem?_eq_some_iff.mp h).1]
  exact h)
theorem tz_46 {q : Nat × Instr × Nat} (j : Nat) (h : tb_Zl_46[j]? = some q) : (mi_tb mi_Z_law)[1840 + j]? = some q := ty_46 j (by
  show (tb_Zl_46 ++ tb_Zt_47)[j]? = some q
  rw [List.getElem?_append_left (List.getElem?_eq_some_iff.mp h).1]
  exact h)
theorem tz_47 {q : Nat × Instr × Nat} (j : Nat) (h : tb_Zl_47[j]? = some q) : (mi_tb mi_Z_law)[1880 + j]? = some q := ty_47 j h
